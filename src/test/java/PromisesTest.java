/** Each promise of the document by itself: ordinary inputs, its edges, wrong inputs. */
public final class PromisesTest {
  private static final int BAD = LittlePot.BAD, NO = LittlePot.NO, FULL = LittlePot.FULL, NONE = LittlePot.NONE,
      NOTHING = LittlePot.NOTHING, KIND = LittlePot.KIND, INDEX = LittlePot.INDEX, SIZE = LittlePot.SIZE;
  private static final int LOW = Integer.MIN_VALUE, HIGH = Integer.MAX_VALUE;

  private static int wrong = 0;
  private static int asked = 0;

  private static void due(String call, int got, int want) {
    asked++;
    if (got != want) {
      wrong++;
      System.out.println(call + " answered " + got + ", due is " + want);
    }
  }

  /** The tape becomes these bytes, and no others. */
  private static void tape(LittlePot x, String row) {
    x.trim(0);
    for (int i = 0; i < row.length(); i += 12) x.feed(word(row, i), word(row, i + 4), word(row, i + 8));
    x.trim(row.length());
  }

  private static int word(String row, int at) {
    int v = 0;
    for (int i = at; i < at + 4; i++) v = v << 8 | (i < row.length() ? row.charAt(i) : ' ');
    return v;
  }

  private static int text(LittlePot x, String row) {
    tape(x, row);
    return x.text();
  }

  private static int drawn(int z) {
    return z * 1103515245 + 12345;
  }

  public static void main(String[] args) {
    newObject();
    eater();
    told();
    cell();
    lays();
    as();
    turns();
    sends();
    cook();
    say();
    rule();
    deal();
    seed();
    minutesFlow();
    minutesThick();
    minutesEat();
    minutesMice();
    minutesBounds();
    town();
    path();
    behind();
    wets();
    deepest();
    walled();
    enough();
    stood();
    fee();
    fine();
    boil();
    feed();
    trim();
    text();
    faults();
    worked();
    textTold();
    why();
    sheet();
    mark();
    pour();
    reads();
    copy();
    lay();
    ask();
    item();
    rest();
    tell();
    check();
    checkLate();
    keepAndBack();
    whatAnImageDoesNotKeep();
    backAndTexts();
    count();
    System.out.println(wrong == 0 ? "promises: " + asked + " answers are as due" : wrong + " answers are not as due");
    if (wrong != 0) System.exit(1);
  }

  private static void newObject() {
    LittlePot x = new LittlePot();
    int[] counts = {0, 0, 7, 20, 0, 0, 0, 0, 0, 1};
    for (int i = 0; i < 10; i++) due("1: count(" + i + ")", x.count(i), counts[i]);
    int[] town = {0, 0, 0, 20, 0, 0};
    for (int i = 0; i < 6; i++) due("1: town(" + i + ")", x.town(i), town[i]);
    for (int c = 0; c < 36; c++) for (int i = 0; i < 4; i++) due("1: cell", x.cell(c, i), 0);
    for (int i = 0; i < 4; i++) due("1: a sheet is missing", x.reads(i), NOTHING);
    for (int i = 0; i < 5; i++) due("1: a slot holds nothing", x.lay(i, 0, 0), 0);
    for (int i = 0; i < 3; i++) due("1: no text", x.why(i), NONE);
    due("1: no eaters", x.told(0, 0), BAD);
    due("1: no image", x.back(), NO);
  }

  private static void eater() {
    LittlePot x = new LittlePot();
    int[][] bad = {{-1, 0}, {6, 0}, {0, -1}, {0, 36}, {LOW, 0}, {0, HIGH}};
    for (int[] b : bad) due("2: bad", x.eater(b[0], b[1]), BAD);
    for (int i = 0; i < 8; i++) {
      due("2: eater", x.eater(i % 6, 35 - i), i);
      due("2: how many", x.count(0), i + 1);
      due("2: its kind", x.told(i, 0), i % 6);
      due("2: its cell", x.told(i, 1), 35 - i);
      due("2: it ate", x.told(i, 2), 0);
    }
    due("2: a ninth", x.eater(0, 0), FULL);
    for (int[] b : bad) due("2: bad ahead of full", x.eater(b[0], b[1]), BAD);
    due("2: still", x.count(0), 8);
    // A number that was given up by going back begins anew.
    LittlePot y = new LittlePot();
    y.keep();
    y.eater(1, 0);
    y.lays(0, 2, 9);
    y.minutes(1);
    y.back();
    due("2: again", y.eater(0, 0), 0);
    due("2: it ate nothing", y.told(0, 2), 0);
  }

  private static void told() {
    LittlePot x = new LittlePot();
    int[][] want = {{3, 99, 0}, {8, 99, 8}, {1, 30, 999}, {16, 999, 16}, {1, 15, 992}, {4, 60, 5}};
    for (int k = 0; k < 6; k++) {
      x.eater(k, k);
      for (int i = 0; i < 3; i++) due("3: kind " + k + " told " + (i + 3), x.told(k, i + 3), want[k][i]);
    }
    x.lays(4, 2, 50);
    due("3: a baby at 50", x.told(4, 3), 1);
    x.lays(4, 2, 51);
    due("3: a baby at 51", x.told(4, 3), 0);
    x.lays(2, 2, 51);
    due("3: a child at 51", x.told(2, 3), 1);
    due("3: what", x.told(0, -1), BAD);
    due("3: what", x.told(0, 6), BAD);
    due("3: eater", x.told(-1, 0), BAD);
    due("3: eater", x.told(6, 0), BAD);
    due("3: eater", x.told(HIGH, LOW), BAD);

    LittlePot y = new LittlePot();
    for (int k = 0; k < 6; k++) y.eater(k, 7 * k);
    for (int k = 0; k < 6; k++) for (int c = 0; c < 36; c++) y.lays(c, 2, 40);
    y.minutes(2);
    int[] ate = {6, 16, 2, 32, 2, 8};
    int[] worth = {6, 24, 997, 80, 990, 5};
    for (int k = 0; k < 6; k++) due("3: ate of " + k, y.told(k, 2), ate[k]);
    for (int k = 0; k < 6; k++) due("3: worth of " + k, y.told(k, 5), worth[k]);
  }

  private static void cell() {
    LittlePot x = new LittlePot();
    x.lays(35, 0, 3);
    x.lays(35, 1, 4);
    x.lays(35, 2, 56);
    int[] want = {3, 4, 56, 126};
    for (int i = 0; i < 4; i++) due("4: cell", x.cell(35, i), want[i]);
    int[][] bad = {{-1, 0}, {36, 0}, {0, -1}, {0, 4}, {LOW, 0}, {0, HIGH}};
    for (int[] b : bad) due("4: bad", x.cell(b[0], b[1]), BAD);
  }

  private static void lays() {
    LittlePot x = new LittlePot();
    int[] most = {20, 20, 999};
    for (int i = 0; i < 3; i++) {
      due("5: most", x.lays(i, i, most[i]), 0);
      due("5: above", x.lays(i, i, most[i] + 1), BAD);
      due("5: below", x.lays(i, i, -1), BAD);
      due("5: stays", x.cell(i, i), most[i]);
      due("5: least", x.lays(i, i, 0), most[i]);
      due("5: is", x.cell(i, i), 0);
    }
    int[][] bad = {{-1, 0, 0}, {36, 0, 0}, {0, -1, 0}, {0, 3, 0}, {0, HIGH, 0}, {0, 2, HIGH}, {LOW, 2, 0}};
    for (int[] b : bad) due("5: bad", x.lays(b[0], b[1], b[2]), BAD);
  }

  private static void as() {
    LittlePot x = new LittlePot();
    boolean[][] under = {
      {true, false, false, false, false, false},
      {true, true, false, false, false, false},
      {true, false, true, false, false, false},
      {true, true, false, true, false, false},
      {true, false, true, false, true, false},
      {true, false, false, false, false, true},
    };
    for (int k = 0; k < 6; k++) x.eater(k, k);
    for (int c = 0; c < 36; c++) x.lays(c, 2, 20);
    x.minutes(1);
    for (int k = 0; k < 6; k++)
      for (int o = 0; o < 6; o++) due("6: " + k + " as " + o, x.as(k, o), under[k][o] ? x.told(k, 2) : KIND);
    due("6: a giant ate", x.as(3, 1), 16);
    int[][] bad = {{-1, 0}, {6, 0}, {0, -1}, {0, 6}, {HIGH, 0}, {0, LOW}};
    for (int[] b : bad) due("6: bad", x.as(b[0], b[1]), BAD);
  }

  private static void turns() {
    LittlePot x = new LittlePot();
    x.eater(0, 9);
    x.lays(9, 2, 3);
    x.minutes(1);
    int was = 0;
    for (int k = 5; k >= 0; k--) {
      due("7: turns", x.turns(0, k), was);
      due("7: kind", x.told(0, 0), k);
      was = k;
    }
    due("7: the same", x.turns(0, 0), 0);
    due("7: it ate", x.told(0, 2), x.town(1));
    int[][] bad = {{-1, 0}, {1, 0}, {0, -1}, {0, 6}};
    for (int[] b : bad) due("7: bad", x.turns(b[0], b[1]), BAD);
  }

  private static void sends() {
    LittlePot x = new LittlePot();
    x.eater(2, 9);
    due("8: sends", x.sends(0, 35), 9);
    due("8: sends", x.sends(0, 0), 35);
    due("8: is", x.told(0, 1), 0);
    int[][] bad = {{-1, 0}, {1, 0}, {0, -1}, {0, 36}};
    for (int[] b : bad) due("8: bad", x.sends(b[0], b[1]), BAD);
  }

  private static void cook() {
    LittlePot x = new LittlePot();
    due("9: bad", x.cook(-1), BAD);
    due("9: bad", x.cook(36), BAD);
    due("9: does not cook", x.town(5), 0);
    due("9: cook", x.cook(35), 0);
    due("9: cooks", x.town(5), 1);
    due("9: where", x.town(4), 35);
    due("9: cook", x.cook(6), 35);
    x.say(7);
    due("9: not", x.town(5), 0);
    due("9: where it was", x.cook(7), 6);
    due("9: again", x.town(5), 1);
  }

  private static void say() {
    LittlePot x = new LittlePot();
    due("10: bad ahead of no", x.say(-1), BAD);
    due("10: bad ahead of no", x.say(10), BAD);
    due("10: no", x.say(7), NO);
    x.cook(0);
    for (int i = 1; i <= 11; i++) {
      due("10: next", x.say(8), 1);
      due("10: thick", x.count(4), Math.min(9, i));
    }
    x.rule(1, 90);
    due("10: ahead", x.say(6), 2);
    due("10: boil", x.count(3), 95);
    due("10: ahead", x.say(6), 2);
    due("10: boil", x.count(3), 99);
    for (int w = 0; w < 10; w++) if (w < 6 || w > 8) due("10: another", x.say(w), 3);
    x.rule(0, 9);
    due("10: 0 behind 9", x.say(0), 1);
    x.rule(0, 0);
    due("10: 9 ahead of 0", x.say(9), 2);
    due("10: 1 behind 0", x.say(1), 1);
    due("10: cooks", x.town(5), 1);
    due("10: the word", x.say(0), 0);
    due("10: not", x.town(5), 0);
    due("10: no", x.say(0), NO);
  }

  private static void rule() {
    LittlePot x = new LittlePot();
    int[] was = {7, 20, 0, 0};
    int[] most = {9, 99, 9, 100};
    for (int i = 0; i < 4; i++) {
      due("11: rule", x.rule(i, most[i]), was[i]);
      due("11: above", x.rule(i, most[i] + 1), BAD);
      due("11: below", x.rule(i, -1), BAD);
      due("11: is", x.count(2 + i), most[i]);
      due("11: least", x.rule(i, 0), most[i]);
    }
    due("11: what", x.rule(-1, 0), BAD);
    due("11: what", x.rule(4, 0), BAD);
    due("11: what", x.rule(HIGH, 0), BAD);
  }

  private static void deal() {
    LittlePot x = new LittlePot();
    due("12: bad", x.deal(0), BAD);
    due("12: bad", x.deal(9), BAD);
    due("12: bad", x.deal(LOW), BAD);
    due("12: no draws", x.count(9), 1);
    due("12: deal", x.deal(2), 2);
    int z = 1;
    for (int e = 0; e < 2; e++) {
      z = drawn(z);
      due("12: kind", x.told(e, 0), (z >>> 8) % 6);
      z = drawn(z);
      due("12: cell", x.told(e, 1), (z >>> 8) % 36);
    }
    due("12: z", x.count(9), z);
    due("12: room", x.deal(8), 6);
    for (int i = 0; i < 12; i++) z = drawn(z);
    due("12: z", x.count(9), z);
    due("12: no room", x.deal(1), 0);
    due("12: eight that ate nothing", x.town(1), 0);
    due("12: no draws for others", x.count(9), z);
  }

  private static void seed() {
    LittlePot x = new LittlePot();
    due("13: seed", x.seed(LOW), 1);
    due("13: seed", x.seed(HIGH), LOW);
    due("13: is", x.count(9), HIGH);
    x.seed(7);
    x.minutes(1);
    due("13: a draw", x.count(9), drawn(7));
  }

  private static void cells(LittlePot x, String call, int... want) {
    for (int c = 0; c < want.length; c++) due(call + " at " + c, x.cell(c, 2), want[c]);
  }

  private static void minutesFlow() {
    LittlePot x = new LittlePot();
    x.lays(0, 2, 10);
    x.minutes(1);
    // 5 of 10 go right, of these 2, of these 1; 1 above is not enough.
    cells(x, "14: flow", 5, 3, 1, 1, 0, 0, 0);
    due("14: none is lost", x.town(0), 10);

    LittlePot y = new LittlePot();
    y.lays(35, 2, 9);
    y.minutes(1);
    due("14: left ahead of above", y.cell(34, 2), 4);
    due("14: the last one", y.cell(35, 2), 5);

    LittlePot z = new LittlePot();
    z.lays(35, 2, 9);
    z.lays(34, 1, 1);
    z.minutes(1);
    due("14: a wall turns it", z.cell(29, 2), 4);
    due("14: a wall keeps dry", z.cell(34, 2), 0);

    LittlePot a = new LittlePot();
    a.lays(1, 2, 9);
    a.lays(2, 1, 1);
    a.minutes(1);
    due("14: left ahead of beneath", a.cell(0, 2), 4);
    due("14: 0 has had its turn", a.cell(6, 2), 0);

    LittlePot h = new LittlePot();
    h.lays(0, 0, 1);
    h.lays(0, 1, 1);
    h.lays(0, 2, 4);
    h.minutes(1);
    due("14: no more than it has", h.cell(0, 2), 0);

    LittlePot p = new LittlePot();
    p.rule(1, 99);
    p.cook(7);
    p.minutes(1);
    due("14: it pours first, then flows", p.cell(7, 2), 50);
    due("14: to the right", p.cell(8, 2), 25);
    due("14: all of it", p.town(0), 99);
  }

  private static void minutesThick() {
    LittlePot x = new LittlePot();
    x.rule(2, 1);
    x.lays(0, 2, 11);
    x.minutes(1);
    // 11 / 2 / 2 is 2, and 2 / 2 / 2 is none.
    cells(x, "14: thick", 9, 2, 0);
    LittlePot y = new LittlePot();
    y.rule(2, 9);
    y.lays(0, 2, 19);
    y.minutes(5);
    cells(y, "14: too thick", 19, 0, 0);
  }

  private static void minutesEat() {
    LittlePot x = new LittlePot();
    x.rule(2, 9);
    x.eater(1, 14);
    x.lays(14, 2, 5);
    x.lays(13, 2, 7);
    x.lays(20, 2, 7);
    x.lays(8, 2, 6);
    due("14: what is eaten", x.minutes(1), 5);
    due("14: it ate all there was", x.told(0, 2), 5);
    due("14: it goes to the first of the most", x.told(0, 1), 13);
    due("14: and eats there", x.minutes(1), 7);

    LittlePot r = new LittlePot();
    r.rule(2, 9);
    r.eater(0, 0);
    r.lays(1, 2, 1);
    r.minutes(1);
    due("14: 1 is enough, to the right", r.told(0, 1), 1);
    r.lays(0, 2, 2);
    r.minutes(1);
    due("14: it eats where it goes", r.told(0, 2), 1);
    due("14: and goes back to 0", r.told(0, 1), 0);

    LittlePot w = new LittlePot();
    w.rule(2, 9);
    w.eater(4, 14);
    w.lays(15, 2, 16);
    w.lays(13, 2, 15);
    w.minutes(1);
    due("14: no deeper than it wades", w.told(0, 1), 13);

    LittlePot s = new LittlePot();
    s.eater(0, 14);
    s.minutes(3);
    due("14: none: it stays", s.told(0, 1), 14);

    LittlePot b = new LittlePot();
    for (int c = 0; c < 36; c++) b.lays(c, 2, 51);
    b.eater(4, 21);
    due("14: a baby is afraid", b.minutes(3), 0);
    due("14: and stays where there is some", b.told(0, 1), 21);

    LittlePot o = new LittlePot();
    o.rule(2, 9);
    o.lays(3, 2, 10);
    o.eater(1, 3);
    o.eater(1, 3);
    o.minutes(1);
    due("14: the first eats first", o.told(0, 2), 8);
    due("14: the second what is left", o.told(1, 2), 2);
  }

  private static void minutesMice() {
    int z1 = drawn(1);
    int z2 = drawn(z1);
    int rest = (z1 >>> 8) % 100;
    int cell = (z2 >>> 8) % 36;
    LittlePot x = new LittlePot();
    x.lays(cell, 1, 2);
    x.rule(3, rest);
    x.minutes(1);
    due("14: not below mice", x.cell(cell, 1), 2);
    due("14: one draw", x.count(9), z1);
    LittlePot y = new LittlePot();
    y.lays(cell, 1, 2);
    y.rule(3, rest + 1);
    y.minutes(1);
    due("14: below mice", y.cell(cell, 1), 1);
    due("14: two draws", y.count(9), z2);
    LittlePot n = new LittlePot();
    n.rule(3, 100);
    n.minutes(1);
    due("14: 0 at least", n.cell(cell, 1), 0);
    n.rule(3, 0);
    n.minutes(60);
    due("14: no mice", n.cell(cell, 1), 0);
  }

  private static void minutesBounds() {
    LittlePot x = new LittlePot();
    for (int n : new int[] {0, -1, 61, LOW, HIGH}) due("14: bad", x.minutes(n), BAD);
    for (int i = 0; i < 166; i++) x.minutes(60);
    due("14: the minute", x.count(1), 9960);
    x.eater(0, 0);
    x.lays(0, 2, 999);
    x.rule(2, 9);
    x.minutes(60);
    due("14: no more than up to 9999", x.count(1), 9999);
    int z = x.count(9);
    due("14: none are left", x.minutes(1), 0);
    due("14: no draw", x.count(9), z);
    due("14: still", x.count(1), 9999);
    due("17: thought has no bound", x.behind(1, 1) - x.town(1), x.told(0, 3));
  }

  private static void town() {
    LittlePot x = new LittlePot();
    x.lays(3, 2, 4);
    x.lays(35, 2, 999);
    x.eater(0, 3);
    x.rule(1, 33);
    due("15: porridge", x.town(0), 1003);
    due("15: wet", x.town(2), 2);
    x.lays(0, 2, 1);
    due("15: 0 is wet, by 1", x.town(2), 3);
    x.lays(0, 2, 0);
    due("15: pours, though it does not cook", x.town(3), 33);
    x.cook(5);
    int ate = x.minutes(4);
    due("15: ate", x.town(1), ate);
    due("15: porridge", x.town(0), 1003 + 4 * 33 - ate);
    due("15: where", x.town(4), 5);
    due("15: cooks", x.town(5), 1);
    for (int w : new int[] {-1, 6, LOW, HIGH}) due("15: bad", x.town(w), BAD);
  }

  private static void path() {
    LittlePot x = new LittlePot();
    due("16: far", x.path(0, 35, 0), 10);
    due("16: near", x.path(7, 8, 0), 1);
    due("16: rows do not go over", x.path(5, 6, 0), 6);
    for (int c = 6; c < 11; c++) x.lays(c, 2, 5);
    due("16: round", x.path(0, 12, 4), 12);
    due("16: over", x.path(0, 12, 5), 2);
    x.lays(11, 2, 6);
    due("16: none", x.path(0, 12, 4), NONE);
    due("16: not even into the last", x.path(0, 6, 4), NONE);
    due("16: the first may have more", x.path(6, 0, 4), 1);
    due("16: the same", x.path(6, 6, 0), 0);
    x.lays(6, 0, 20);
    x.lays(6, 1, 20);
    due("16: heights and walls are nothing to it", x.path(0, 12, 5), 2);
    due("16: most", x.path(0, 12, 9999), 2);
    int[][] bad = {{-1, 0, 0}, {36, 0, 0}, {0, -1, 0}, {0, 36, 0}, {0, 0, -1}, {0, 0, 10000}};
    for (int[] b : bad) due("16: bad", x.path(b[0], b[1], b[2]), BAD);
  }

  /** Something of everything, for what is only thought. */
  private static LittlePot busy() {
    LittlePot x = new LittlePot();
    x.seed(99);
    x.deal(5);
    x.rule(3, 60);
    for (int c = 0; c < 36; c++) x.lays(c, c % 2, c * 7 % 5);
    x.lays(17, 2, 200);
    x.cook(8);
    text(x, "boil b+t");
    return x;
  }

  private static void behind() {
    LittlePot x = busy();
    int[] n = {0, 1, 7, 60};
    for (int k : n) {
      LittlePot y = busy();
      int porridge = x.behind(k, 0);
      int ate = x.behind(k, 1);
      if (k > 0) y.minutes(k);
      due("17: porridge", porridge, y.town(0));
      due("17: ate", ate, y.town(1));
      for (int c = 0; c < 36; c++) due("17: of a cell", x.behind(k, 2 + c), y.cell(c, 2));
    }
    due("17: nothing changes", x.count(9), busy().count(9));
    due("17: nothing changes", x.count(1), 0);
    due("17: nothing changes", x.town(0), 200);
    int[][] bad = {{-1, 0}, {61, 0}, {0, -1}, {0, 38}, {LOW, 0}, {0, HIGH}};
    for (int[] b : bad) due("17: bad", x.behind(b[0], b[1]), BAD);
  }

  private static void wets() {
    LittlePot x = new LittlePot();
    x.lays(0, 2, 3);
    due("18: wet now", x.wets(0), 0);
    due("18: wet next", x.wets(1), 1);
    due("18: never", x.wets(35), NONE);
    // A pot that pours 1 a minute from minute t on, above a dry cell that is one step lower.
    for (int late = 198; late <= 199; late++) {
      LittlePot y = new LittlePot();
      y.lays(0, 0, 1);
      y.cook(0);
      text(y, "boil t>" + late);
      due("18: wet behind 200, not 201", y.wets(1), late == 198 ? 200 : NONE);
      due("18: nothing changes", y.count(1), 0);
    }
    due("18: bad", x.wets(-1), BAD);
    due("18: bad", x.wets(36), BAD);
  }

  private static void deepest() {
    LittlePot x = new LittlePot();
    due("19: all dry", x.deepest(0, 0), 0);
    x.lays(1, 2, 2);
    due("19: 1", x.deepest(0, 0), 1);
    x.lays(1, 2, 0);
    x.lays(9, 2, 30);
    x.lays(33, 2, 30);
    due("19: the least of several", x.deepest(0, 0), 9);
    due("19: how deep", x.deepest(0, 1), 30);
    x.lays(33, 2, 31);
    due("19: the deepest", x.deepest(0, 0), 33);
    LittlePot y = busy();
    LittlePot z = busy();
    z.minutes(60);
    int most = 0;
    for (int c = 35; c >= 0; c--) if (z.cell(c, 2) >= z.cell(most, 2)) most = c;
    due("19: behind 60", y.deepest(60, 0), most);
    due("19: how deep", y.deepest(60, 1), z.cell(most, 2));
    int[][] bad = {{-1, 0}, {61, 0}, {0, -1}, {0, 2}};
    for (int[] b : bad) due("19: bad", x.deepest(b[0], b[1]), BAD);
  }

  private static void walled() {
    LittlePot x = new LittlePot();
    due("20: all alike", x.walled(5, 20, 0), 0);
    x.lays(0, 2, 10);
    // It flows to 1 unless 1 is walled; a wall at 0 itself sends all of it there.
    due("20: itself", x.walled(1, 1, 0), 1);
    due("20: dry", x.walled(1, 1, 1), 0);
    due("20: a wall at 0 sends all away", x.walled(0, 1, 0), 0);
    due("20: none is left", x.walled(0, 1, 1), 0);
    due("20: nothing changes", x.cell(0, 1), 0);
    // Level ground at the highest wall: only one that is higher still turns the 50 parts away.
    LittlePot y = new LittlePot();
    for (int c = 0; c < 36; c++) y.lays(c, 1, 20);
    y.lays(0, 2, 50);
    due("20: above 20, too", y.walled(1, 1, 0), 1);
    due("20: above 20, too", y.walled(1, 1, 1), 0);
    // 54 parts stand 4 above a wall of 5, and give it 2; 6 would keep it dry.
    LittlePot z = new LittlePot();
    z.lays(0, 2, 54);
    z.lays(6, 1, 20);
    z.lays(2, 1, 20);
    z.lays(7, 1, 20);
    due("20: just 5", z.walled(1, 1, 1), 2);
    int[][] bad = {{-1, 1, 0}, {36, 1, 0}, {0, 0, 0}, {0, 21, 0}, {0, 1, -1}, {0, 1, 2}};
    for (int[] b : bad) due("20: bad", x.walled(b[0], b[1], b[2]), BAD);
  }

  private static void enough() {
    LittlePot x = new LittlePot();
    x.cook(0);
    due("21: dry now", x.enough(0, 0), 0);
    due("21: not a minute", x.enough(0, 1), 0);
    due("21: far away", x.enough(35, 1), 1);
    due("21: bad", x.enough(-1, 0), BAD);
    due("21: bad", x.enough(36, 0), BAD);
    due("21: bad", x.enough(0, -1), BAD);
    due("21: bad", x.enough(0, 41), BAD);
    // It pours 4 and an eater eats 3: the 3 that are left of three minutes are eaten in the fourth.
    LittlePot y = new LittlePot();
    y.rule(2, 9);
    y.rule(1, 4);
    y.eater(0, 14);
    y.cook(14);
    due("21: some can be eaten", y.enough(14, 4), 3);
    due("21: cooks still", y.town(5), 1);
    y.lays(14, 2, 19);
    due("21: none", y.enough(14, 1), NONE);
    y.say(7);
    y.lays(14, 2, 3);
    due("21: it does not cook", y.enough(14, 40), 40);
  }

  private static void stood() {
    LittlePot x = new LittlePot();
    int[][] bad = {{-1, 0, 0}, {4, 0, 0}, {0, -1, 0}, {0, 21, 0}, {0, 0, -1}, {0, 0, 2}};
    for (int[] b : bad) due("22: bad ahead of nothing", x.stood(b[0], b[1], b[2]), BAD);
    due("22: nothing", x.stood(0, 0, 0), NOTHING);
    x.sheet(0, 1, 0);
    due("22: no places", x.stood(0, 20, 0), 0);
    due("22: no differences", x.stood(0, 20, 1), 0);
    for (int pot = 0; pot < 24; pot += 5) {
      LittlePot y = busy();
      LittlePot z = busy();
      z.cook(pot);
      z.minutes(6);
      y.say(7);
      y.sheet(2, pot % 2, 24);
      for (int k = 0; k < 24; k++) y.mark(2, k, z.cell(k, 2));
      due("22: it stood", y.stood(2, 6, 0), pot);
      due("22: no differences", y.stood(2, 6, 1), 0);
      due("22: nothing changes", y.town(4), 8);
      due("22: nothing changes", y.town(5), 0);
    }
    LittlePot w = new LittlePot();
    w.rule(2, 9);
    w.rule(1, 10);
    w.sheet(3, 1, 3);
    w.mark(3, 0, -4);
    w.mark(3, 1, NONE);
    w.mark(3, 2, 7);
    due("22: signs are left out", w.stood(3, 1, 1), 7);
    due("22: the nearest", w.stood(3, 1, 0), 2);
  }

  private static void fee() {
    LittlePot x = busy();
    x.minutes(5);
    due("23: without a text", x.fee(), x.town(1));
    due("23: a text", text(x, "fee a*1000+p"), 1);
    due("23: what it gives", x.fee(), x.town(1) * 1000 + x.town(0));
    text(x, "fee 0-a");
    due("23: the last one", x.fee(), -x.town(1));
  }

  private static void fine() {
    LittlePot x = busy();
    x.minutes(9);
    for (int e = 0; e < 5; e++) due("24: without a text", x.fine(e), x.told(e, 2));
    text(x, "fine a*100-c");
    for (int e = 0; e < 5; e++) due("24: what it gives", x.fine(e), x.told(e, 2) * 100 - x.told(e, 1));
    due("24: bad", x.fine(-1), BAD);
    due("24: bad", x.fine(5), BAD);
  }

  private static void boil() {
    LittlePot x = new LittlePot();
    x.rule(2, 9);
    x.cook(3);
    text(x, "boil b*2+t");
    due("15: boil", x.town(3), 40);
    x.minutes(7);
    due("14: it pours by the minute", x.town(0), 40 + 41 + 42 + 43 + 44 + 45 + 46);
    text(x, "boil 9999");
    due("15: 99 at most", x.town(3), 99);
    text(x, "boil 0-5");
    due("15: 0 at least", x.town(3), 0);
    LittlePot y = new LittlePot();
    y.cook(0);
    y.rule(2, 9);
    y.lays(0, 2, 5);
    text(y, "boil p");
    y.minutes(1);
    due("14: by what is there ahead of it", y.town(0), 10);
  }

  private static void feed() {
    LittlePot x = new LittlePot();
    for (int i = 1; i <= 8; i++) due("25: feed", x.feed(0, 0, 0), 12 * i);
    due("25: full", x.feed(0, 0, 0), FULL);
    due("25: still", x.count(8), 96);
    x.trim(85);
    due("25: full", x.feed(0, 0, 0), FULL);
    x.trim(84);
    due("25: room", x.feed(0, 0, 0), 96);
    x.trim(0);
    x.feed(0x66656520, 0x31322b61, 0x20202020);
    due("25: the highest byte first", x.text(), 0);
    due("25: fee 12+a", x.fee(), 12);
  }

  private static void trim() {
    LittlePot x = new LittlePot();
    due("26: bad", x.trim(1), BAD);
    due("26: bad", x.trim(-1), BAD);
    due("26: none", x.trim(0), 0);
    x.feed(0x66656520, 0x31203220, 0);
    due("26: bad", x.trim(13), BAD);
    due("26: all", x.trim(12), 12);
    due("26: fewer", x.trim(5), 5);
    due("26: bad", x.trim(6), BAD);
    due("26: count", x.count(8), 5);
    due("26: the first ones are kept", x.text(), 0);
    due("26: fee 1", x.fee(), 1);
    // What was cut off is not read, though a word went on there.
    x.feed(0x66656520, 0x31323334, 0x35363738);
    x.trim(5);
    due("26: a number cut short", x.text(), 1);
    due("26: fee 1", x.fee(), 1);
    x.feed(0x66656520, 0x70707070, 0x70707070);
    x.trim(5);
    due("26: a name cut short", x.text(), 2);
  }

  private static void text() {
    LittlePot x = new LittlePot();
    for (int i = 0; i < 14; i++) {
      due("27: text", text(x, "fee " + i), i);
      due("27: the tape is used up", x.count(8), 0);
    }
    due("27: full", text(x, "fee 1"), FULL);
    due("27: used up", x.count(8), 0);
    due("27: a fault ahead of full", text(x, "fee )"), -104);
    due("27: used up", x.count(8), 0);
    due("27: still", x.count(6), 14);
    due("27: still", x.fee(), 13);
  }

  private static void faults() {
    String[] good = {"boil b", "  boil   t  ", "boil(p)", "boil!b", "fee a&p|a", "fine a<c", "fine 1=2&3>4", "fee 0000",
      "boil 9999", "boil((((((((1))))))))", "boil !!!!!!!!1", "boil !!!!!!!!((((((((b))))))))",
      "boil ((((((((1))))))))+((((((((1))))))))", "boil !!!!!!!!1+!!!!!!!!1", "boil (1<2)<3", "boil 1<2&2<3",
      "boil !(!(!(!(!(!(!(!(b))))))))", "boil 1-2-3*4/5"};
    for (String g : good) due("27: '" + g + "'", text(new LittlePot(), g), 0);
    Object[][] bad = {{"", 0}, {"   ", 3}, {"boi", 0}, {"foil b", 0}, {"fie a", 0}, {"bee a", 0}, {"boilb", 0}, {" Boil b", 1}, {"boil", 4}, {"boil  ", 6},
      {"boil1", 4}, {"boil 1b", 6}, {"boil b1", 6}, {"boil a", 5}, {"fee b", 4}, {"fee t", 4}, {"fine p", 5},
      {"fee c", 4}, {"boil c", 5}, {"fine b", 5},
      {"boil bb", 5}, {"boil b b", 7}, {"boil 12345", 5}, {"boil 00001", 5}, {"boil 1+12345", 7}, {"boil 1<2<3", 8},
      {"boil (1<2=3)", 9}, {"boil 1+", 7}, {"boil 1+ ", 8}, {"boil +1", 5}, {"boil -1", 5}, {"boil ()", 6},
      {"boil (1", 7}, {"boil (1 2", 8}, {"boil 1)", 6}, {"boil (((((((((1)))))))))", 13}, {"boil !!!!!!!!!1", 13},
      {"boil !(!(!(!(!(!(!(!(!b))))))))", 21}, {"boil 1&&1", 7}, {"boil 1 ! 2", 7}, {"boil 1\t", 6}, {"boil 1\0", 6},
      {"boil \u00e9", 5}, {"boil B", 5}, {"fee fee", 4}, {"5 boil", 0}, {"(boil 1)", 0}, {"boil 1%2", 6},
      {"boil !", 6}, {"boil b!b", 6}, {"boil b(b)", 6}, {"boil 1,", 6}, {"boil `", 5}, {"boil {", 5}, {"boil :", 5}};
    for (Object[] b : bad) {
      LittlePot x = new LittlePot();
      due("27: '" + b[0] + "'", text(x, (String) b[0]), -100 - (Integer) b[1]);
      due("27: no text", x.count(6), 0);
      due("27: used up", x.count(8), 0);
    }
  }

  private static void worked() {
    LittlePot again = new LittlePot();
    due("27: a fault at a word", text(again, "fee 1 2"), -106);
    due("27: a fault at a word", text(again, "fine b"), -105);
    due("27: an end too soon", text(again, "fee ((((((((!!!!!!!!1+2+3"), -125);
    due("27: nothing is left of a fault", text(again, "fee ((((((((!!!!!!!!9))))))))"), 0);
    due("28: its numbers alone", again.textTold(0, 1), 1);
    due("23: and what it gives", again.fee(), 1);
    Object[][] want = {{"1+2*3", 7}, {"(1+2)*3", 9}, {"7-2-1", 4}, {"9/2/2", 2}, {"0-7/2", -3}, {"(0-7)/2", -3},
      {"5/0", 0}, {"5/(1-1)", 0}, {"2<3", 1}, {"3<2", 0}, {"3<3", 0}, {"3>2", 1}, {"2>3", 0}, {"3>3", 0}, {"3=3", 1},
      {"3=4", 0}, {"5&6", 1}, {"5&0", 0}, {"0&5", 0}, {"0|0", 0}, {"0|9", 1}, {"9|0", 1}, {"1|0&0", 1}, {"0&0|1", 1},
      {"!0", 1}, {"!7", 0}, {"!!7", 1}, {"!0+1", 2}, {"!(0+1)", 0}, {"!2*3", 0}, {"1+2<2+2", 1}, {"5=5&6=6", 1},
      {"9999*9999*9999", (int) (9999L * 9999 * 9999)}, {"2-3*4+5", -5}, {"8/3*3", 6}, {"0123", 123}, {"1<2=0", null},
      {"(0-9999)*9999*22&1", 1}, {"1=1+0", 1}, {"2*3=6|1/0", 1}};
    for (Object[] w : want) {
      LittlePot x = new LittlePot();
      int got = text(x, "fee " + w[0]);
      if (w[1] == null) {
        due("27: '" + w[0] + "'", got, -107);
      } else {
        due("27: '" + w[0] + "'", got, 0);
        due("23: '" + w[0] + "'", x.fee(), (Integer) w[1]);
      }
    }
    LittlePot deep = new LittlePot();
    due("27: deep", text(deep, "fee 0|1&2<3+4*(0|1&2<3+4*(0|1&2<3+4*(0|1&2<3+4*(0|1&2<3+4*(0|1&2<3+4*(0|1&2<3+4*(1)))))))"), 0);
    due("23: deep", deep.fee(), 1);
    due("28: deep", deep.textTold(0, 1), 36);
  }

  private static void textTold() {
    LittlePot x = new LittlePot();
    due("28: none", x.textTold(0, 0), BAD);
    text(x, "fine a+a*(c-1)");
    text(x, "boil !7");
    text(x, "fee p&a");
    int[][] want = {{2, 4}, {0, 1}, {1, 2}};
    for (int i = 0; i < 3; i++) for (int w = 0; w < 2; w++) due("28: told", x.textTold(i, w), want[i][w]);
    int[][] bad = {{-1, 0}, {3, 0}, {0, -1}, {0, 2}, {HIGH, 0}, {14, 0}};
    for (int[] b : bad) due("28: bad", x.textTold(b[0], b[1]), BAD);
  }

  private static void why() {
    LittlePot x = new LittlePot();
    text(x, "fine a");
    text(x, "boil b");
    text(x, "fine c");
    text(x, "fine )");
    due("29: boil", x.why(0), 1);
    due("29: fee", x.why(1), NONE);
    due("29: fine", x.why(2), 2);
    text(x, "fee a");
    due("29: fee", x.why(1), 3);
    LittlePot y = new LittlePot();
    text(y, "fee a");
    due("29: the first", y.why(1), 0);
    due("29: bad", x.why(-1), BAD);
    due("29: bad", x.why(3), BAD);
  }

  private static void sheet() {
    LittlePot x = new LittlePot();
    int[][] bad = {{-1, 0, 0}, {4, 0, 0}, {0, -2, 0}, {0, 2, 0}, {0, 0, 25}, {0, 1, HIGH}, {4, -1, 0}, {0, 2, -1}, {4, 0, -1}};
    for (int[] b : bad) due("30: bad", x.sheet(b[0], b[1], b[2]), BAD);
    due("30: size", x.sheet(0, 0, -1), SIZE);
    due("30: size", x.sheet(3, 1, LOW), SIZE);
    due("30: still missing", x.reads(0), NOTHING);
    for (int sort = 0; sort < 2; sort++) {
      due("30: most", x.sheet(3, sort, 24), 24);
      due("30: last place", x.mark(3, 23, 5), 1);
      due("30: no such place", x.mark(3, 24, 5), INDEX);
      due("30: none", x.sheet(3, sort, 0), 0);
      due("30: no such place", x.mark(3, 0, 5), INDEX);
      x.sheet(3, sort, 24);
      x.mark(3, 0, 6);
      x.mark(3, 23, 6);
      x.sheet(3, sort, 24);
      x.lay(0, 2, 3);
      due("30: all 0", x.item(0, 0), 0);
      due("30: all 0", x.item(0, 23), 0);
    }
    due("30: missing", x.sheet(3, -1, -7), 0);
    due("30: missing", x.sheet(2, -1, 99), 0);
    due("30: is missing", x.mark(3, 0, 0), NOTHING);
  }

  private static void mark() {
    LittlePot x = new LittlePot();
    due("31: bad", x.mark(-1, 0, 0), BAD);
    due("31: bad", x.mark(4, 99, NONE), BAD);
    due("31: nothing", x.mark(0, -1, 0), NOTHING);
    x.sheet(0, 0, 3);
    due("31: index ahead of kind", x.mark(0, 3, NONE), INDEX);
    due("31: index", x.mark(0, -1, 0), INDEX);
    due("31: kind", x.mark(0, 2, NONE), KIND);
    due("31: shorts", x.mark(0, 0, 40000), 1);
    due("31: shorts", x.mark(0, 1, -32769), 1);
    due("31: shorts", x.mark(0, 2, 0x7fff8000), 1);
    x.lay(0, 2, 0);
    due("31: lowest 16 bits", x.item(0, 0), 40000 - 65536);
    due("31: lowest 16 bits", x.item(0, 1), 32767);
    due("31: lowest 16 bits", x.item(0, 2), -32768);
    x.sheet(1, 1, 3);
    due("31: floats", x.mark(1, 0, 99999), 1);
    due("31: floats", x.mark(1, 1, -99999), 1);
    due("31: no number", x.mark(1, 2, NONE), 1);
    due("31: bad", x.mark(1, 0, 100000), BAD);
    due("31: bad", x.mark(1, 1, -100000), BAD);
    due("31: index ahead of bad", x.mark(1, 3, HIGH), INDEX);
    x.lay(1, 2, 1);
    due("31: floats", x.item(1, 0), 99999);
    due("31: floats", x.item(1, 1), -99999);
    due("31: no number", x.item(1, 2), KIND);
    due("31: a number again", x.mark(1, 2, 0), 1);
  }

  private static void pour() {
    LittlePot x = new LittlePot();
    due("32: bad", x.pour(-1), BAD);
    due("32: bad", x.pour(4), BAD);
    due("32: nothing", x.pour(0), NOTHING);
    for (int c = 0; c < 8; c++) x.lays(c, 0, 4);
    x.sheet(0, 1, 6);
    int[] v = {4, 0, 20, 21, -1, NONE};
    int[] want = {4, 0, 20, 20, 0, 4, 4};
    for (int k = 0; k < 6; k++) x.mark(0, k, v[k]);
    due("32: otherwise", x.pour(0), 4);
    for (int c = 0; c < 7; c++) due("32: height", x.cell(c, 0), want[c]);
    due("32: again", x.pour(0), 0);
    x.sheet(1, 0, 24);
    due("32: shorts", x.pour(1), 6);
    due("32: shorts", x.cell(7, 0), 0);
  }

  private static void reads() {
    LittlePot x = new LittlePot();
    due("33: bad", x.reads(-1), BAD);
    due("33: bad", x.reads(4), BAD);
    due("33: nothing", x.reads(3), NOTHING);
    x.sheet(3, 1, 4);
    due("33: none", x.reads(3), NONE);
    x.lays(1, 2, 9);
    x.lays(3, 2, 8);
    x.lays(4, 2, 7);
    due("33: first", x.reads(3), 1);
    x.mark(3, 1, NONE);
    due("33: numbers alone", x.reads(3), 3);
    x.mark(3, 3, 8);
    due("33: beyond it nothing is read", x.reads(3), NONE);
    x.mark(3, 0, 1);
    due("33: the first of all", x.reads(3), 0);
  }

  private static void copy() {
    LittlePot x = new LittlePot();
    x.sheet(0, 0, 5);
    x.sheet(1, 0, 3);
    x.sheet(2, 1, 3);
    for (int k = 0; k < 5; k++) x.mark(0, k, k + 1);
    due("34: bad ahead of nothing", x.copy(4, 0, 3, 0, 0), BAD);
    due("34: bad", x.copy(3, 0, -1, 0, 0), BAD);
    due("34: nothing", x.copy(3, 9, 0, 9, 9), NOTHING);
    due("34: nothing", x.copy(2, 9, 3, 9, 9), NOTHING);
    due("34: kind ahead of index", x.copy(0, 9, 2, 9, 9), KIND);
    int[][] off = {{-1, 0, 1}, {0, -1, 1}, {0, 0, -1}, {4, 0, 2}, {0, 2, 2}, {6, 0, 0}, {0, 4, 0}, {1, 1, HIGH},
      {HIGH, 0, 1}, {0, HIGH, 1}, {HIGH, HIGH, HIGH}, {LOW, 0, 1}, {0, 0, LOW}, {0, 0, 4}};
    for (int[] o : off) due("34: index", x.copy(0, o[0], 1, o[1], o[2]), INDEX);
    due("34: copy", x.copy(0, 2, 1, 0, 3), 3);
    x.lay(0, 2, 1);
    for (int k = 0; k < 3; k++) due("34: copied", x.item(0, k), k + 3);
    due("34: none, at the ends", x.copy(0, 5, 1, 3, 0), 0);
    due("34: itself", x.copy(0, 0, 0, 1, 4), 4);
    x.lay(0, 2, 0);
    int[] right = {1, 1, 2, 3, 4};
    for (int k = 0; k < 5; k++) due("34: as they were", x.item(0, k), right[k]);
    due("34: itself", x.copy(0, 1, 0, 0, 4), 4);
    x.lay(0, 2, 0);
    int[] left = {1, 2, 3, 4, 4};
    for (int k = 0; k < 5; k++) due("34: as they were", x.item(0, k), left[k]);
    x.sheet(3, 1, 3);
    x.mark(2, 1, NONE);
    due("34: floats", x.copy(2, 1, 3, 2, 1), 1);
    x.lay(0, 2, 3);
    due("34: no number, too", x.item(0, 2), KIND);
  }

  private static void lay() {
    LittlePot x = new LittlePot();
    x.eater(1, 0);
    x.sheet(2, 0, 2);
    x.mark(2, 1, 9);
    int[][] bad = {{-1, 0, 0}, {5, 0, 0}, {0, -1, 0}, {0, 4, 0}, {0, 1, -1}, {0, 1, 1}, {0, 2, -1}, {0, 2, 4}};
    for (int[] b : bad) due("35: bad", x.lay(b[0], b[1], b[2]), BAD);
    due("35: nothing", x.lay(0, 2, 0), NOTHING);
    due("35: a number", x.lay(4, 3, LOW), 0);
    due("35: an eater", x.lay(4, 1, 0), 3);
    due("35: a sheet", x.lay(4, 2, 2), 1);
    due("35: refused", x.lay(4, 2, 1), NOTHING);
    due("35: nothing, k any", x.lay(4, 0, 99), 2);
    due("35: nothing", x.lay(4, 0, -1), 0);
    x.lay(1, 2, 2);
    x.mark(2, 1, 8);
    due("35: a row of its own", x.item(1, 1), 9);
    x.sheet(2, -1, 0);
    due("35: still", x.item(1, 1), 9);
    x.lay(2, 1, 0);
    x.turns(0, 2);
    x.lays(0, 2, 8);
    x.minutes(1);
    due("35: as it was then", x.ask(2, 1), 8);
  }

  private static void ask() {
    LittlePot x = new LittlePot();
    for (int k = 0; k < 6; k++) x.eater(k, 0);
    for (int c = 0; c < 36; c++) x.lays(c, 2, 50);
    x.minutes(1);
    for (int k = 0; k < 6; k++) {
      x.lay(3, 1, k);
      for (int o = 0; o < 6; o++) due("36: " + k + " as " + o, x.ask(3, o), x.as(k, o) == KIND ? KIND : x.told(k, 5));
    }
    x.lay(3, 1, 3);
    due("36: a giant is one, whatever it is taken for", x.ask(3, 0), 2 * (16 + 8));
    int[][] bad = {{-1, 0}, {5, 0}, {0, -1}, {0, 6}};
    for (int[] b : bad) due("36: bad ahead of nothing", x.ask(b[0], b[1]), BAD);
    due("36: nothing", x.ask(0, 0), NOTHING);
    x.lay(0, 3, 7);
    due("36: a number", x.ask(0, 0), KIND);
    x.sheet(0, 0, 1);
    x.lay(0, 2, 0);
    due("36: a sheet", x.ask(0, 0), KIND);
  }

  private static void item() {
    LittlePot x = new LittlePot();
    x.eater(0, 0);
    x.sheet(0, 1, 2);
    x.mark(0, 1, NONE);
    due("37: bad", x.item(-1, 0), BAD);
    due("37: bad", x.item(5, 0), BAD);
    due("37: nothing", x.item(0, -1), NOTHING);
    x.lay(0, 1, 0);
    due("37: an eater", x.item(0, -1), KIND);
    x.lay(0, 3, 0);
    due("37: a number", x.item(0, 9), KIND);
    x.lay(0, 2, 0);
    due("37: item", x.item(0, 0), 0);
    due("37: no number", x.item(0, 1), KIND);
    due("37: index", x.item(0, 2), INDEX);
    due("37: index", x.item(0, -1), INDEX);
  }

  private static void rest() {
    LittlePot x = new LittlePot();
    x.eater(0, 0);
    due("38: bad", x.rest(-1, 0), BAD);
    due("38: bad", x.rest(5, 0), BAD);
    due("38: nothing", x.rest(0, 0), NOTHING);
    x.lay(0, 1, 0);
    due("38: kind ahead of no", x.rest(0, 0), KIND);
    x.lay(0, 3, -17);
    due("38: no", x.rest(0, 0), NO);
    due("38: rest", x.rest(0, 5), -2);
    due("38: rest", x.rest(0, -5), -2);
    x.lay(0, 3, 17);
    due("38: rest", x.rest(0, -5), 2);
    due("38: rest", x.rest(0, HIGH), 17);
    x.lay(0, 3, LOW);
    due("38: rest", x.rest(0, -1), 0);
    due("38: rest", x.rest(0, LOW), 0);
  }

  private static void tell() {
    LittlePot x = new LittlePot();
    for (int i = 1; i <= 60; i++) due("39: tell", x.tell(i == 1 ? LOW : i), i);
    due("39: full", x.tell(0), FULL);
    due("39: still", x.count(7), 60);
  }

  /** The rows of a pot that pours 20 a minute where an eater eats 3. */
  private static LittlePot kept() {
    LittlePot x = new LittlePot();
    x.eater(0, 0);
    x.cook(0);
    x.keep();
    return x;
  }

  private static void tells(LittlePot x, int many) {
    for (int i = 1; i <= many; i++) {
      x.tell(17 * i);
      x.tell(3 * i);
    }
  }

  private static void check() {
    LittlePot x = new LittlePot();
    x.tell(1);
    due("40: bad ahead of no", x.check(0), BAD);
    due("40: none wait then", x.count(7), 0);
    x.tell(1);
    due("40: no", x.check(1), NO);
    due("40: none wait then", x.count(7), 0);

    LittlePot y = kept();
    y.minutes(3);
    tells(y, 30);
    due("40: thirty", y.check(30), 0);
    due("40: none wait then", y.count(7), 0);
    due("40: all is as it was", y.count(1), 3);
    tells(y, 30);
    due("40: bad", y.check(31), BAD);
    due("40: none wait then", y.count(7), 0);
    due("40: missing", y.check(1), 1);
    y.tell(17);
    due("40: missing", y.check(1), 2);
    tells(y, 2);
    due("40: one too many", y.check(1), 3);
    tells(y, 2);
    due("40: missing", y.check(3), 5);
    y.tell(17);
    y.tell(4);
    y.tell(34);
    due("40: the first that is not", y.check(2), 2);
    y.tell(18);
    due("40: the first that is not", y.check(2), 1);
    tells(y, 2);
    y.tell(51);
    due("40: missing", y.check(3), 6);
    tells(y, 2);
    y.tell(51);
    y.tell(10);
    due("40: the first that is not", y.check(4), 6);
  }

  private static void checkLate() {
    LittlePot x = new LittlePot();
    for (int i = 0; i < 166; i++) x.minutes(60);
    x.minutes(37);
    x.eater(0, 0);
    x.cook(0);
    x.keep();
    tells(x, 2);
    due("40: fewer", x.check(30), 0);
    tells(x, 3);
    due("40: fewer", x.check(30), 5);
    x.minutes(60);
    x.keep();
    due("40: none", x.check(5), 0);
    x.tell(0);
    due("40: one too many", x.check(5), 1);
  }

  private static void keepAndBack() {
    for (int many = 1; many <= 2; many++) {
      LittlePot x = busy();
      due("42: no", x.back(), NO);
      x.minutes(4);
      x.rule(2, 1);
      due("41: keep", x.keep(), 5);
      int[] before = all(x);
      for (int again = 0; again < many; again++) {
        changesAll(x, 4 * again);
        due("42: back", x.back(), 5);
      }
      int[] after = all(x);
      for (int i = 0; i < before.length; i++) due("42: as it was, " + i, after[i], before[i]);
    }
  }

  private static void changesAll(LittlePot x, int from) {
    for (int i = 0; i < 4; i++) x.rule(i, 1 + i);
    x.eater(3, 3);
    x.turns(0, (x.told(0, 0) + 1) % 6);
    x.sends(1, (x.told(1, 1) + 1) % 36);
    for (int c = from; c < 36; c += 8) for (int w = 0; w < 3; w++) x.lays(c, w, (x.cell(c, w) + 1) % 20);
    x.cook(30);
    x.say(1);
    text(x, "boil 1");
    text(x, "fee 1");
    x.minutes(7);
    x.seed(5);
  }

  private static void whatAnImageDoesNotKeep() {
    LittlePot x = busy();
    x.keep();
    x.sheet(0, 0, 3);
    x.lay(0, 3, 44);
    x.tell(5);
    tape(x, "fee 1");
    x.back();
    due("42: a sheet stays", x.mark(0, 2, 1), 1);
    due("42: a slot stays", x.rest(0, 10), 4);
    due("42: numbers wait", x.count(7), 1);
    due("42: the tape stays", x.count(8), 5);
    x.eater(0, 0);
    due("41: again", x.keep(), 6);
    x.minutes(1);
    due("42: the new one", x.back(), 6);
  }

  private static int[] all(LittlePot x) {
    int[] row = new int[10 + 6 + 36 * 3 + 5 * 3 + 3];
    int n = 0;
    for (int i = 0; i < 10; i++) row[n++] = x.count(i);
    for (int i = 0; i < 6; i++) row[n++] = x.town(i);
    for (int c = 0; c < 36; c++) for (int w = 0; w < 3; w++) row[n++] = x.cell(c, w);
    for (int e = 0; e < 5; e++) for (int w = 0; w < 3; w++) row[n++] = x.told(e, w);
    for (int k = 0; k < 3; k++) row[n++] = x.why(k);
    return row;
  }

  private static void backAndTexts() {
    LittlePot x = new LittlePot();
    text(x, "fee 1");
    x.keep();
    due("42: a text", text(x, "fee 2"), 1);
    due("42: a text", text(x, "fine 3"), 2);
    x.back();
    due("42: texts go", x.count(6), 1);
    due("42: no such text", x.textTold(1, 0), BAD);
    due("42: the one that counted", x.fee(), 1);
    due("42: another one", text(x, "boil 4"), 1);
    due("42: its key", x.textTold(1, 0), 0);
    x.cook(0);
    x.tell(0);
    x.tell(0);
    due("40: by the image's texts", x.check(1), 0);
    x.keep();
    for (int i = 2; i < 14; i++) text(x, "boil 9");
    x.tell(4);
    x.tell(0);
    due("40: by the image's texts", x.check(1), 0);
    x.back();
    due("42: it pours as it did", x.town(3), 4);
  }

  private static void count() {
    LittlePot x = busy();
    x.minutes(5);
    x.rule(0, 1);
    x.rule(1, 2);
    x.rule(2, 3);
    x.rule(3, 4);
    x.tell(1);
    x.tell(1);
    tape(x, "abc");
    x.seed(-8);
    int[] want = {5, 5, 1, 2, 3, 4, 1, 2, 3, -8};
    for (int i = 0; i < 10; i++) due("43: count", x.count(i), want[i]);
    for (int i : new int[] {-1, 10, LOW, HIGH}) due("43: bad", x.count(i), BAD);
  }
}
