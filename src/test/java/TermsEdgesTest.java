/**
 * The limits, cuts and wrap-arounds that the document's terms name, each with the promise at which it can be seen.
 */
public final class TermsEdgesTest extends Edges {
  public static void main(String[] args) {
    numbers();
    cells();
    neighbours();
    potAndRules();
    eaters();
    pours();
    level();
    eats();
    wades();
    worth();
    pouring();
    flowOrder();
    flowParts();
    eating();
    going();
    mice();
    draws();
    ways();
    onlyThought();
    behind();
    wets();
    deepest();
    walled();
    enough();
    stood();
    texts();
    grammar();
    pieces();
    names();
    words();
    blanks();
    faults();
    workedOut();
    counts();
    sheets();
    slots();
    findings();
    images();
    minutesTold();
    allIsQuoted("the terms", terms());
    ends("edges of the terms");
  }

  private static void numbers() {
    at(23, "All numbers are whole; / cuts towards 0.");
    gives("7/2", 3);
    gives("(0-7)/2", -3);
    gives("7/(0-2)", -3);
    gives("(0-7)/(0-2)", 3);
    gives("1/2", 0);
    gives("(0-1)/2", 0);
    at(31, "A call that is refused answers one of BAD, NO, FULL, or a FINDING, of several the one that stands first with it, and changes nothing");
    leaves(BAD, "mark", 4, -1, NONE);
    leaves(NOTHING, "mark", 3, -1, NONE);
    leaves(INDEX, "mark", 0, -1, NONE);
    leaves(KIND, "mark", 0, 0, NONE);
    leaves(BAD, "mark", 1, 0, HIGH);
    at(27, "(but the tape and the numbers that wait, where told).");
    LittlePot x = rich();
    x.trim(4);
    due(x, -104, "text");
    due(x, 0, "count", 8);
    due(x, BAD, "check", 0);
    due(x, 0, "count", 7);
    due(x, 3, "count", 6);
    at(29, "NONE: there is none.");
    due(fresh(), NONE, "why", 0);
    due(fresh(), NONE, "wets", 0);
  }

  // ---- 1, the town

  private static void cells() {
    at(4, "THE TOWN has CELLS 0 .. 35 (row c / 6, column c % 6), each with HEIGHT 0 .. 20, WALL 0 .. 20 (loaves) and PORRIDGE (parts; 0 each at first).");
    LittlePot x = fresh();
    for (int c = 0; c < 36; c++) for (int w = 0; w < 4; w++) due(x, 0, "cell", c, w);
    due(x, BAD, "cell", -1, 0);
    due(x, BAD, "cell", 36, 0);
    LittlePot y = fresh();
    for (int from = 0; from < 36; from += 5) {
      for (int c = 0; c < 36; c++) due(y, Math.abs(c / 6 - from / 6) + Math.abs(c % 6 - from % 6), "path", from, c, 0);
    }
    LittlePot z = fresh();
    for (int w = 0; w < 2; w++) {
      due(z, 0, "lays", 35, w, 20);
      due(z, BAD, "lays", 35, w, 21);
      due(z, BAD, "lays", 35, w, -1);
      due(z, 20, "cell", 35, w);
    }
  }

  /** An eater in a dry cell, and one part in another one: whether it goes there. */
  private static void goes(int from, int there, boolean beside) {
    LittlePot x = thick();
    x.eater(0, from);
    x.lays(there, 2, 1);
    x.minutes(1);
    due(x, beside ? there : from, "told", 0, 1);
  }

  private static boolean isBeside(int a, int b) {
    return Math.abs(a / 6 - b / 6) + Math.abs(a % 6 - b % 6) == 1;
  }

  /** Two cells alone within walls, and 20 parts in the one: whether 10 of them go to the other. */
  private static void flowsTo(int from, int to, boolean beside) {
    LittlePot x = fresh();
    for (int c = 0; c < 36; c++) if (c != from && c != to) x.lays(c, 1, 20);
    x.lays(from, 2, 20);
    x.minutes(1);
    // What came to a later cell is on a level with the first one then.
    due(x, beside ? 10 : 20, "cell", from, 2);
    due(x, beside ? 10 : 0, "cell", to, 2);
  }

  /** Of any two neighbours that are alike an eater goes to the one that stands first. */
  private static void inOrder(int cell) {
    int[] near = {cell % 6 < 5 ? cell + 1 : -1, cell % 6 > 0 ? cell - 1 : -1, cell < 30 ? cell + 6 : -1, cell > 5 ? cell - 6 : -1};
    for (int i = 0; i < 4; i++) {
      for (int j = i + 1; j < 4; j++) {
        if (near[i] < 0 || near[j] < 0) continue;
        LittlePot x = thick();
        x.eater(0, cell);
        x.lays(near[i], 2, 1);
        x.lays(near[j], 2, 1);
        x.minutes(1);
        due(x, near[i], "told", 0, 1);
      }
    }
  }

  private static void neighbours() {
    at(14, "The NEIGHBOURS of a CELL, in this order: the one to the right, to the left, beneath, above (those that are in THE TOWN).");
    for (int a = 0; a < 36; a++) {
      for (int b = 0; b < 36; b++) {
        if (a != b) goes(a, b, isBeside(a, b));
        if (a != b) flowsTo(a, b, isBeside(a, b));
      }
      inOrder(a);
    }
    // The first of those that are alike, for an eater and for what flows.
    int[] sides = {15, 13, 20, 8};
    for (int first = 0; first < 4; first++) {
      LittlePot x = thick();
      x.eater(0, 14);
      for (int i = first; i < 4; i++) x.lays(sides[i], 2, 9);
      x.minutes(1);
      due(x, sides[first], "told", 0, 1);
      LittlePot y = fresh();
      y.lays(14, 2, 9);
      for (int i = 0; i < first; i++) y.lays(sides[i], 1, 1);
      due(y, 5, "behind", 1, 2 + 14);
      for (int i = 0; i < 4; i++) due(y, i != first ? 0 : i == 0 || i == 2 ? 2 : 4, "behind", 1, 2 + sides[i]);
    }
    // At the sides of the town: nothing flows over its edge, or round it.
    int[][] ends = {{5, 6}, {11, 12}, {29, 30}, {6, 5}, {30, 29}, {0, 35}, {35, 0}, {0, 30}, {30, 0}, {5, 35}, {35, 5}};
    for (int[] e : ends) {
      LittlePot x = fresh();
      for (int c = 0; c < 36; c++) if (c != e[0] && c != e[1]) x.lays(c, 1, 20);
      x.lays(e[0], 2, 150);
      x.minutes(60);
      due(x, 150, "cell", e[0], 2);
      due(x, 0, "cell", e[1], 2);
    }
  }

  private static void potAndRules() {
    at(9, "THE POT stands in a CELL (0 at first) and COOKS or not (not at first).");
    LittlePot x = fresh();
    due(x, 0, "town", 4);
    due(x, 0, "town", 5);
    due(x, 0, "minutes", 60);
    due(x, 0, "town", 0);
    due(x, 0, "cook", 35);
    due(x, 35, "town", 4);
    at(11, "THE WORD is 0 .. 9 (7 at first), BOIL 0 .. 99 (20), THICK 0 .. 9 (0), MICE 0 .. 100 (0).");
    int[] first = {7, 20, 0, 0};
    int[] most = {9, 99, 9, 100};
    LittlePot y = fresh();
    for (int i = 0; i < 4; i++) {
      due(y, first[i], "count", 2 + i);
      due(y, BAD, "rule", i, most[i] + 1);
      due(y, BAD, "rule", i, -1);
      due(y, first[i], "rule", i, most[i]);
      due(y, most[i], "rule", i, 0);
    }
    at(14, "THE MINUTE is 0 at first, 9999 at most.");
    LittlePot z = fresh();
    due(z, 0, "count", 1);
    late(z);
    due(z, 9999, "count", 1);
    due(z, 0, "minutes", 1);
    due(z, 9999, "count", 1);
  }

  private static void eaters() {
    at(2, "EATERS, 8 at most, numbered from 0: CELL, ATE (0 at first), and of KINDS:");
    LittlePot x = fresh();
    for (int i = 0; i < 8; i++) {
      due(x, i, "eater", 0, 35 - i);
      due(x, 35 - i, "told", i, 1);
      due(x, 0, "told", i, 2);
    }
    due(x, FULL, "eater", 0, 0);
    due(x, BAD, "told", 8, 0);
    // One that takes the number of another, which went with an image, has eaten nothing.
    LittlePot again = thick();
    again.keep();
    for (int come = 0; come < 2; come++) {
      again.eater(1, 20);
      again.lays(20, 2, 19);
      due(again, 8, "minutes", 1);
      due(again, 0, "back");
      if (come == 0) due(again, 0, "eater", 2, 3);
      else due(again, 1, "deal", 1);
      due(again, 0, "told", 0, 2);
      again.back();
    }
    at(6, "0 EATER; 1 GLUTTON, 2 CHILD, 5 DOG, under EATER; 3 GIANT, under GLUTTON; 4 BABY, under CHILD (all are EATERS).");
    int[] above = {-1, 0, 0, 1, 2, 0};
    LittlePot y = fresh();
    for (int k = 0; k < 6; k++) y.eater(k, 0);
    for (int k = 0; k < 6; k++) {
      for (int o = 0; o < 6; o++) {
        boolean is = o == k || o == above[k] || above[k] >= 0 && o == above[above[k]];
        due(y, is ? 0 : KIND, "as", k, o);
      }
    }
    due(y, BAD, "as", 0, 6);
    due(y, BAD, "as", 0, -1);
  }

  private static void pours() {
    at(15, "POURS (of THE POT, in a MINUTE): what boil gives, held within 0 .. 99 (without a TEXT: BOIL).");
    String[] rows = {"0-1", "0", "1", "98", "99", "100", "9999", "8192*8192*32", "8192*8192*32-1", "0-8192*8192*16"};
    int[] held = {0, 0, 1, 98, 99, 99, 99, 0, 99, 0};
    for (int i = 0; i < rows.length; i++) {
      LittlePot x = fresh();
      x.cook(0);
      text(x, "boil " + rows[i]);
      due(x, held[i], "town", 3);
      due(x, held[i], "behind", 1, 0);
      x.minutes(1);
      due(x, held[i], "town", 0);
    }
    for (int boil : new int[] {0, 99}) {
      LittlePot x = fresh();
      x.rule(1, boil);
      x.cook(0);
      due(x, boil, "town", 3);
      due(x, boil, "behind", 1, 0);
      text(x, "fee 7");
      text(x, "fine 8");
      due(x, boil, "town", 3);
    }
  }

  private static void level() {
    at(4, "LEVEL of a CELL: 10 times HEIGHT and WALL together, and PORRIDGE.");
    LittlePot x = fresh();
    due(x, 0, "cell", 35, 3);
    x.lays(35, 2, 999);
    due(x, 999, "cell", 35, 3);
    x.lays(35, 1, 20);
    due(x, 1199, "cell", 35, 3);
    x.lays(35, 0, 20);
    due(x, 1399, "cell", 35, 3);
    x.lays(35, 2, 0);
    due(x, 400, "cell", 35, 3);
    x.lays(35, 1, 0);
    due(x, 200, "cell", 35, 3);
  }

  /** Of a kind, alone among so many parts everywhere, so that nothing flows. */
  private static LittlePot among(int kind, int parts) {
    LittlePot x = thick();
    for (int c = 0; c < 36; c++) x.lays(c, 2, parts);
    x.eater(kind, 14);
    return x;
  }

  private static void eats() {
    at(3, "EATS (in a MINUTE): EATER: 3. GLUTTON: 8. GIANT: twice as GLUTTON. CHILD: 1. BABY: as CHILD, but 0, if there are more than 50 parts where it is. DOG: as EATER, and 1.");
    int[] eats = {3, 8, 1, 16, 1, 4};
    for (int k = 0; k < 6; k++) {
      for (int parts : new int[] {0, 49, 50, 51, 999}) {
        LittlePot x = among(k, parts);
        int due = k == 4 && parts > 50 ? 0 : eats[k];
        due(x, due, "told", 0, 3);
        due(x, Math.min(due, parts), "minutes", 1);
        due(x, Math.min(due, parts), "told", 0, 2);
      }
    }
    // It shuns what is where it is, not what is elsewhere.
    for (int where : new int[] {0, 35}) {
      for (int deep : new int[] {0, 35}) {
        LittlePot b = fresh();
        b.eater(5, 17);
        b.keep();
        b.eater(4, 17);
        b.sends(1, where);
        b.lays(deep, 2, 51);
        due(b, where == deep ? 0 : 1, "told", 1, 3);
      }
    }
    // What a baby shuns is what is there when it eats: one ahead of it may have made it less.
    LittlePot x = among(2, 51);
    x.eater(4, 14);
    due(x, 0, "told", 1, 3);
    due(x, 2, "minutes", 1);
    due(x, 1, "told", 1, 2);
  }

  private static void wades() {
    at(3, "WADES: EATER: 99. GIANT: as GLUTTON, and 900. CHILD: 30. BABY: half (cut) of as CHILD. DOG: 60.");
    int[] wades = {99, 99, 30, 999, 15, 60};
    for (int k = 0; k < 6; k++) {
      LittlePot x = fresh();
      x.eater(k, 14);
      due(x, wades[k], "told", 0, 4);
      for (int more = 0; more < 2; more++) {
        LittlePot y = k == 3 ? deepPit(more) : pit(wades[k] + more);
        y.eater(k, 0);
        y.minutes(1);
        due(y, wades[k] + more, "cell", 6, 2);
        due(y, more == 0 ? 6 : 0, "told", 0, 1);
      }
    }
  }

  /** So many parts in cell 6, which stay there, and a dry cell 0 above them. */
  private static LittlePot pit(int parts) {
    LittlePot x = thick();
    for (int c = 0; c < 36; c++) {
      x.lays(c, 0, c == 6 ? 0 : 20);
      x.lays(c, 1, c == 6 ? 0 : 20);
    }
    x.lays(6, 2, parts);
    return x;
  }

  /** The same with 999 parts, or some more, of which 32 flow away from cell 0, to 12, which is the lowest around. */
  private static LittlePot deepPit(int more) {
    LittlePot x = pit(999);
    x.lays(12, 1, 19);
    x.rule(1, 32 + more);
    x.cook(6);
    return x;
  }

  private static void worth() {
    at(3, "WORTH: EATER: ATE. GLUTTON: as EATER, and 8. GIANT: twice as GLUTTON. CHILD: 999 less ATE. BABY: as CHILD, less 7. DOG: 5. (A KIND that is not named does as the one above it.)");
    LittlePot x = among(3, 999);
    int ate = 0;
    for (int i = 0; i < 3; i++) {
      int[] worth = {ate, ate + 8, 999 - ate, 2 * (ate + 8), 992 - ate, 5};
      for (int k = 0; k < 6; k++) {
        x.turns(0, k);
        due(x, worth[k], "told", 0, 5);
      }
      x.turns(0, 3);
      ate += 16 * 60;
      due(x, 16 * 60, "minutes", 60);
    }
  }

  // ---- 2, a minute

  private static void pouring() {
    at(14, "A MINUTE: (1) If THE POT COOKS, PORRIDGE of its CELL is what it POURS more.");
    for (int c : new int[] {0, 35}) {
      LittlePot x = thick();
      x.rule(1, 19);
      x.cook(c);
      x.minutes(1);
      due(x, 19, "cell", c, 2);
      x.say(7);
      x.minutes(1);
      due(x, 19, "town", 0);
      x.cook(c);
      x.rule(1, 0);
      x.minutes(1);
      due(x, 19, "town", 0);
    }
  }

  private static void parts(LittlePot x, int... want) {
    for (int c = 0; c < want.length; c++) due(x, want[c], "cell", c, 2);
  }

  private static void flowOrder() {
    at(14, "(2) CELLS by numbers, each by what is there by then:");
    LittlePot x = fresh();
    x.lays(0, 2, 40);
    x.minutes(1);
    // 20 of 40, 10 of 20, 5 of 10, 2 of 5, 1 of 2; cell 5 has 1 and keeps it.
    parts(x, 20, 10, 5, 3, 1, 1, 0);
    LittlePot y = fresh();
    y.lays(35, 2, 40);
    y.minutes(1);
    due(y, 20, "cell", 35, 2);
    due(y, 20, "cell", 34, 2);
    due(y, 0, "cell", 33, 2);
    at(14, "of its NEIGHBOURS the one with the least LEVEL (of several the first):");
    int[][] levels = {{1, 0, 0, 0}, {1, 1, 0, 0}, {1, 1, 1, 0}, {1, 0, 1, 0}, {1, 0, 1, 1}, {1, 1, 0, 1}, {0, 1, 1, 1}, {0, 0, 0, 0}};
    int[] sides = {15, 13, 20, 8};
    for (int[] l : levels) {
      LittlePot z = thick();
      for (int i = 0; i < 4; i++) z.lays(sides[i], 0, l[i]);
      z.lays(14, 0, 20);
      z.lays(14, 2, 1);
      z.minutes(1);
      int first = 0;
      for (int i = 1; i < 4; i++) if (l[i] < l[first]) first = i;
      for (int i = 0; i < 4; i++) due(z, i == first ? 1 : 0, "cell", sides[i], 2);
    }
  }

  /** So many parts in cell 0 on a height, and what is still there behind a minute. */
  private static void flows(int height, int parts, int thick, int beside, int left) {
    LittlePot x = fresh();
    x.rule(2, thick);
    x.lays(0, 0, height);
    x.lays(0, 2, parts);
    x.lays(1, 2, beside);
    for (int c : new int[] {2, 6, 7}) {
      x.lays(c, 0, 20);
      x.lays(c, 1, 20);
    }
    x.minutes(1);
    due(x, left, "cell", 0, 2);
    // Above 400 it flows on, over the walls.
    if (parts < 400) due(x, parts + beside - left, "cell", 1, 2);
  }

  private static void flowParts() {
    at(14, "if its own LEVEL is above that one's by more than 1, so many parts go there: by how much it is above, / 2, / (1 and THICK); no more than it has.");
    // By 0, by 1: none; by 2 and 3: one; by 4: two.
    int[] left = {5, 6, 6, 7, 7, 8};
    for (int by = 0; by < 6; by++) flows(0, 5 + by, 0, 5, left[by]);
    flows(0, 1, 0, 0, 1);
    flows(0, 2, 0, 0, 1);
    flows(0, 3, 1, 0, 3);
    flows(0, 4, 1, 0, 3);
    flows(0, 7, 1, 0, 6);
    flows(0, 8, 1, 0, 6);
    // 11 / 2 / 3 is 1; 12 / 2 / 3 is 2.
    flows(0, 11, 2, 0, 10);
    flows(0, 12, 2, 0, 10);
    flows(0, 19, 9, 0, 19);
    flows(0, 20, 9, 0, 19);
    flows(0, 39, 9, 0, 38);
    flows(0, 40, 9, 0, 38);
    // On a height of 1, 10 parts are 20 above: all of them go; 11 are 21 above: one stays.
    flows(1, 9, 0, 0, 0);
    flows(1, 10, 0, 0, 0);
    flows(1, 11, 0, 0, 1);
    flows(1, 12, 0, 0, 1);
    flows(20, 1, 0, 0, 0);
    flows(20, 0, 0, 0, 0);
    flows(20, 0, 0, 7, 0);
    // The most: 1199 above, 599 go.
    flows(20, 999, 0, 0, 400);
    flows(20, 999, 9, 0, 940);
  }

  private static void eating() {
    at(14, "(3) EATERS by numbers: each eats of the PORRIDGE in its CELL as much as it EATS (all, if there is less; ATE is more by it);");
    int[] eats = {3, 8, 1, 16, 1, 4};
    for (int k = 0; k < 6; k++) {
      for (int parts = 0; parts < 19; parts++) {
        LittlePot x = thick();
        x.eater(k, 35);
        x.lays(35, 2, parts);
        due(x, Math.min(parts, eats[k]), "minutes", 1);
        due(x, Math.min(parts, eats[k]), "told", 0, 2);
        due(x, Math.max(0, parts - eats[k]), "cell", 35, 2);
      }
    }
    LittlePot y = thick();
    for (int i = 0; i < 8; i++) y.eater(0, 20);
    y.lays(20, 2, 19);
    due(y, 19, "minutes", 1);
    int[] ate = {3, 3, 3, 3, 3, 3, 1, 0};
    for (int i = 0; i < 8; i++) due(y, ate[i], "told", i, 2);
  }

  /** An eater that eats 3 of the parts in its cell, 14, and what stands around: where it is then. */
  private static void went(int parts, int right, int left, int beneath, int above, int where) {
    LittlePot x = thick();
    x.eater(0, 14);
    int[] cells = {14, 15, 13, 20, 8};
    int[] all = {parts, right, left, beneath, above};
    for (int i = 0; i < 5; i++) x.lays(cells[i], 2, all[i]);
    x.minutes(1);
    due(x, where, "told", 0, 1);
  }

  private static void going() {
    at(14, "if there is none left then, it goes to the NEIGHBOUR with the most PORRIDGE of those with 1 or more, but no more than it WADES (of several the first; none: it stays).");
    went(4, 9, 9, 9, 9, 14);
    went(3, 9, 9, 9, 9, 15);
    went(2, 9, 9, 9, 9, 15);
    went(0, 0, 0, 0, 0, 14);
    went(0, 0, 0, 0, 1, 8);
    went(0, 0, 0, 1, 1, 20);
    went(0, 0, 1, 1, 1, 13);
    went(0, 1, 1, 1, 1, 15);
    went(0, 1, 1, 1, 2, 8);
    went(0, 1, 1, 2, 2, 20);
    went(0, 1, 2, 2, 2, 13);
    went(3, 1, 2, 3, 2, 20);
    // A baby wades through 15, and takes what is less where there is more.
    for (int deep = 15; deep <= 16; deep++) {
      LittlePot x = thick();
      x.eater(4, 14);
      x.lays(15, 2, deep);
      x.lays(13, 2, 2);
      x.minutes(1);
      due(x, deep == 15 ? 15 : 13, "told", 0, 1);
      LittlePot y = thick();
      y.eater(4, 14);
      y.lays(15, 2, deep);
      y.minutes(1);
      due(y, deep == 15 ? 15 : 14, "told", 0, 1);
    }
    // It goes once in a minute, and eats there in the next one.
    LittlePot z = thick();
    z.eater(0, 14);
    z.lays(15, 2, 2);
    z.lays(16, 2, 2);
    due(z, 0, "minutes", 1);
    due(z, 15, "told", 0, 1);
    due(z, 2, "minutes", 1);
    due(z, 16, "told", 0, 1);
  }

  private static void mice() {
    at(14, "(4) A draw; if its rest by 100 is below MICE, one more draw: WALL of the CELL that is its rest by 36 is 1 less (0 at least). THE MINUTE is 1 more.");
    for (int seed : new int[] {1, -1, 0, LOW, HIGH, 123456}) {
      int one = drawn(seed);
      int two = drawn(one);
      int rest = (one >>> 8) % 100;
      int cell = (two >>> 8) % 36;
      for (int mice : new int[] {0, rest, rest + 1, 100}) {
        for (int wall : new int[] {0, 1, 20}) {
          LittlePot x = fresh();
          x.seed(seed);
          x.rule(3, mice);
          for (int c = 0; c < 36; c++) x.lays(c, 1, wall);
          due(x, 0, "minutes", 1);
          boolean come = rest < mice;
          due(x, come ? two : one, "count", 9);
          due(x, come ? Math.max(0, wall - 1) : wall, "cell", cell, 1);
          due(x, wall, "cell", (cell + 1) % 36, 1);
          due(x, wall, "cell", (cell + 35) % 36, 1);
          due(x, 1, "count", 1);
        }
      }
    }
    // A draw whose rest is 0 comes with one mouse, one whose rest is 99 only with a hundred.
    restedBy(0, 0, 1);
    restedBy(99, 99, 100);
    // Each cell can be gnawed at, the first and the last, too.
    for (int want : new int[] {0, 35}) {
      LittlePot x = fresh();
      x.rule(3, 100);
      x.seed(seedFor(100, -1, want));
      x.lays(want, 1, 2);
      x.minutes(1);
      due(x, 1, "cell", want, 1);
    }
  }

  private static void restedBy(int rest, int none, int some) {
    int seed = seedFor(100, rest, -1);
    for (int mice : new int[] {none, some}) {
      LittlePot x = fresh();
      x.seed(seed);
      x.rule(3, mice);
      x.minutes(1);
      due(x, mice == none ? drawn(seed) : drawn(drawn(seed)), "count", 9);
    }
  }

  /** A seed whose first draw has that rest, and whose second one that rest by 36 (-1: any). */
  private static int seedFor(int by, int rest, int cell) {
    for (int seed = 0; ; seed++) {
      int one = drawn(seed);
      if (rest >= 0 && (one >>> 8) % by != rest) continue;
      if (cell >= 0 && (drawn(one) >>> 8) % 36 != cell) continue;
      return seed;
    }
  }

  private static void draws() {
    at(13, "z is told (1 at first). A draw: z becomes z * 1103515245 + 12345 (an int); it gives z >>> 8.");
    due(fresh(), 1, "count", 9);
    LittlePot x = fresh();
    int z = 1;
    for (int i = 0; i < 50; i++) {
      x.minutes(1);
      z = (int) (z * 1103515245L + 12345L);
      due(x, z, "count", 9);
    }
    LittlePot y = fresh();
    for (int seed : new int[] {0, -1, LOW, HIGH, 1}) {
      y.seed(seed);
      y.minutes(1);
      due(y, (int) (seed * 1103515245L + 12345L), "count", 9);
    }
    at(12, "EATERS that are drawn: KIND the rest of a draw by 6, CELL that of one more by 36.");
    for (int kind = 0; kind < 6; kind++) {
      for (int cell : new int[] {0, 17, 35}) {
        int seed = seedFor(6, kind, cell);
        LittlePot w = fresh();
        w.seed(seed);
        due(w, 1, "deal", 1);
        due(w, kind, "told", 0, 0);
        due(w, cell, "told", 0, 1);
        due(w, 0, "told", 0, 2);
        due(w, drawn(drawn(seed)), "count", 9);
      }
    }
    // z below 0 gives what is not below 0.
    for (int seed = 0; seed < 40; seed++) {
      LittlePot w = fresh();
      w.seed(seed * 0x3333333);
      w.deal(8);
      int v = seed * 0x3333333;
      for (int e = 0; e < 8; e++) {
        v = drawn(v);
        due(w, (v >>> 8) % 6, "told", e, 0);
        v = drawn(v);
        due(w, (v >>> 8) % 36, "told", e, 1);
      }
    }
  }

  // ---- 3, ways, and what will be

  private static void ways() {
    at(16, "WAY from a CELL to another one: the fewest steps to NEIGHBOURS, never into a CELL with more than so many parts (the first one may have more; 0: it is the same).");
    LittlePot x = fresh();
    for (int c = 6; c < 12; c++) x.lays(c, 2, 7);
    due(x, 2, "path", 0, 12, 7);
    due(x, NONE, "path", 0, 12, 6);
    due(x, 1, "path", 0, 6, 7);
    due(x, NONE, "path", 0, 6, 6);
    due(x, 1, "path", 6, 0, 0);
    due(x, 1, "path", 6, 12, 0);
    due(x, NONE, "path", 6, 7, 6);
    due(x, 0, "path", 6, 6, 0);
    x.lays(11, 2, 0);
    due(x, 12, "path", 0, 12, 0);
    due(x, 12, "path", 12, 0, 6);
    due(x, NONE, "path", 6, 7, 6);
    // The longest way there can be: to and fro through every row.
    LittlePot y = fresh();
    for (int row = 1; row < 6; row += 2) for (int c = 0; c < 6; c++) if (c != (row % 4 == 1 ? 5 : 0)) y.lays(6 * row + c, 2, 1);
    due(y, 20, "path", 0, 35, 0);
    due(y, 10, "path", 0, 35, 1);
  }

  private static LittlePot lateTown() {
    LittlePot x = fresh();
    late(x);
    x.eater(0, 0);
    x.cook(0);
    text(x, "boil (t>9998)*9+(t>9999)*20");
    x.sheet(0, 0, 2);
    return x;
  }

  private static void onlyThought() {
    at(17, "(All that follows is only thought, from now on, z as it is, without the bound of THE MINUTE: nothing changes.)");
    LittlePot x = lateTown();
    // It pours 9 in the minute behind 9999, and 29 in each one behind that.
    due(x, 6, "behind", 1, 0);
    due(x, 32, "behind", 2, 0);
    due(x, 3 * 60, "behind", 60, 1);
    due(x, 9 + 59 * 29 - 180, "behind", 60, 0);
    due(x, 1, "wets", 1);
    due(x, 0, "deepest", 1, 0);
    due(x, 2, "deepest", 1, 1);
    due(x, 1, "enough", 35, 1);
    due(x, 0, "enough", 0, 1);
    due(x, 2, "stood", 0, 1, 0);
    due(x, 0, "minutes", 60);
    due(x, 9999, "count", 1);
    due(x, 0, "town", 0);
    String[] calls = {"behind", "wets", "deepest", "walled", "enough", "stood"};
    int[][] args = {{60, 0}, {35}, {60, 1}, {35, 20, 1}, {35, 40}, {0, 20, 1}};
    for (int i = 0; i < calls.length; i++) leaves(call(rich(), calls[i], args[i]), calls[i], args[i]);
    // Mice come by z as it is, as they do in minutes that pass.
    LittlePot y = rich();
    int[] thought = new int[36];
    for (int c = 0; c < 36; c++) thought[c] = y.behind(60, 2 + c);
    y.minutes(60);
    for (int c = 0; c < 36; c++) due(y, thought[c], "cell", c, 2);
  }

  private static void behind() {
    at(17, "BEHIND n MINUTES: PORRIDGE of all, together; ATE of all, together; 2 and c: PORRIDGE of CELL c.");
    LittlePot x = thick();
    x.rule(1, 5);
    x.cook(35);
    x.eater(0, 35);
    for (int n : new int[] {0, 1, 8}) {
      due(x, 2 * n, "behind", n, 0);
      due(x, 3 * n, "behind", n, 1);
      due(x, 2 * n, "behind", n, 37);
      due(x, 0, "behind", n, 2);
    }
    due(x, BAD, "behind", 0, 38);
  }

  /** A pot that pours 2 from a minute on, beside a dry cell, and whether that one is wet in time. */
  private static void wetsFrom(int minute, int want) {
    LittlePot x = fresh();
    x.cook(0);
    text(x, "boil (t>" + (minute - 1) + ")*2");
    due(x, want, "wets", 1);
    due(x, want, "wets", 0);
  }

  private static void wets() {
    at(18, "WETS of a CELL: behind how many MINUTES (0 .. 200) there is PORRIDGE in it first.");
    LittlePot x = fresh();
    x.lays(35, 2, 1);
    due(x, 0, "wets", 35);
    wetsFrom(1, 2);
    wetsFrom(198, 199);
    wetsFrom(199, 200);
    wetsFrom(200, NONE);
    // What comes and is eaten within a minute is not there behind it.
    LittlePot y = fresh();
    y.rule(1, 3);
    y.lays(14, 0, 0);
    for (int c : new int[] {8, 13, 15, 20}) y.lays(c, 1, 20);
    y.cook(14);
    y.eater(0, 14);
    due(y, NONE, "wets", 14);
    y.rule(1, 4);
    due(y, 1, "wets", 14);
    // From now on, not from minute 0.
    LittlePot z = fresh();
    z.cook(0);
    text(z, "boil (t>9)*2");
    z.minutes(8);
    due(z, 3, "wets", 1);
  }

  private static void deepest() {
    at(19, "DEEPEST for n: the CELL with the most PORRIDGE behind n MINUTES; of several the least.");
    LittlePot x = fresh();
    due(x, 0, "deepest", 0, 0);
    due(x, 0, "deepest", 60, 0);
    for (int c = 35; c >= 0; c--) {
      x.lays(c, 2, 7);
      due(x, c, "deepest", 0, 0);
      due(x, 7, "deepest", 0, 1);
    }
    x.lays(34, 2, 8);
    due(x, 34, "deepest", 0, 0);
    due(x, 8, "deepest", 0, 1);
    // Deep, not high.
    x.lays(3, 0, 20);
    x.lays(3, 1, 20);
    due(x, 34, "deepest", 0, 0);
    // Sixteen parts: 8 behind one minute, in the first two cells 4 and 8 behind two.
    LittlePot y = fresh();
    y.rule(1, 40);
    y.cook(35);
    y.lays(0, 2, 16);
    due(y, 0, "deepest", 0, 0);
    due(y, 34, "deepest", 1, 0);
    due(y, 20, "deepest", 1, 1);
  }

  /** Cells 0 and 1 alone, with 50 parts and more in 0, and walls so high in both. */
  private static LittlePot two(int parts, int wall) {
    LittlePot x = fresh();
    for (int c = 2; c < 36; c++) x.lays(c, 0, 20);
    for (int c = 2; c < 36; c++) x.lays(c, 1, 20);
    x.lays(0, 1, wall);
    x.lays(1, 1, wall);
    x.lays(0, 2, parts);
    return x;
  }

  private static void walled() {
    at(20, "WALLED of a CELL, for n: the CELL whose WALL 5 more (above 20, too) now leaves PORRIDGE of the first one least behind n MINUTES; of several the least.");
    for (int wall : new int[] {0, 15, 16, 20}) {
      // 51 parts are 1 above a wall of 5, and none go; 52 are 2 above, and one goes.
      due(two(51, wall), 1, "walled", 1, 1, 0);
      due(two(51, wall), 0, "walled", 1, 1, 1);
      due(two(52, wall), 1, "walled", 1, 1, 1);
      // A wall at 0 itself sends all of 50 there, but only 51 of 52.
      due(two(50, wall), 0, "walled", 0, 1, 0);
      due(two(50, wall), 0, "walled", 0, 1, 1);
      due(two(52, wall), 1, "walled", 0, 1, 1);
    }
    // It is a wall, at which mice gnaw: 48 parts do not go over 5 loaves, but over 4, in the second minute.
    LittlePot gnawed = two(48, 0);
    gnawed.rule(3, 100);
    gnawed.seed(seedFor(100, -1, 1));
    due(gnawed, 0, "walled", 1, 1, 1);
    due(gnawed, 1, "walled", 1, 2, 0);
    due(gnawed, 4, "walled", 1, 2, 1);
    due(fresh(), 0, "walled", 35, 20, 0);
    LittlePot x = fresh();
    x.lays(35, 2, 1);
    // Where a wall there sends its part away, and no other one does.
    due(x, 35, "walled", 35, 1, 0);
    due(x, 0, "walled", 35, 1, 1);
    due(x, 0, "walled", 34, 1, 0);
    // All 36 are alike: the least of them.
    LittlePot y = thick();
    y.lays(20, 2, 999);
    due(y, 0, "walled", 0, 1, 0);
    // For 20 minutes, for 19 and for 1: one more part comes in each.
    LittlePot z = thick();
    for (int c : new int[] {34, 29}) {
      z.lays(c, 1, 20);
      z.lays(c, 0, 20);
    }
    z.rule(1, 1);
    z.cook(35);
    for (int n : new int[] {1, 19, 20}) {
      due(z, n, "behind", n, 37);
      due(z, n, "walled", 35, n, 1);
      due(z, 0, "walled", 35, n, 0);
    }
  }

  private static void enough() {
    at(21, "ENOUGH of a CELL, for n: the greatest k 0 .. n for which, if THE POT COOKS no more right behind k MINUTES, there is no PORRIDGE in that CELL behind n MINUTES.");
    LittlePot x = thick();
    for (int c : new int[] {8, 13, 15, 20}) x.lays(c, 1, 20);
    x.rule(1, 4);
    x.cook(14);
    x.eater(0, 14);
    // 4 come and 3 are eaten in a minute: what 3k minutes leave, k more take away.
    int[] want = {0, 0, 1, 2, 3, 3, 4, 5, 6, 6, 7, 8, 9};
    for (int n = 0; n < want.length; n++) due(x, want[n], "enough", 14, n);
    due(x, 30, "enough", 14, 40);
    due(x, 40, "enough", 0, 40);
    due(x, 14, "town", 4);
    due(x, 1, "town", 5);
    x.lays(14, 2, 4);
    due(x, NONE, "enough", 14, 0);
    due(x, NONE, "enough", 14, 1);
    due(x, 0, "enough", 14, 2);
    due(fresh(), 40, "enough", 35, 40);
    due(fresh(), 0, "enough", 35, 0);
    // The greatest, though the cell is not dry for all that are less: only what is cooked there leads the eater there.
    LittlePot y = thick();
    y.rule(1, 2);
    y.cook(14);
    y.lays(14, 2, 1);
    y.lays(26, 2, 2);
    y.eater(0, 20);
    due(y, NONE, "enough", 14, 0);
    due(y, NONE, "enough", 14, 1);
    due(y, 1, "enough", 14, 2);
    // As long as it cooks, the eater has enough where it is, and does not go to 14.
    LittlePot z = thick();
    z.rule(1, 4);
    z.cook(15);
    z.lays(14, 2, 1);
    z.eater(0, 15);
    due(z, NONE, "enough", 14, 1);
    due(z, 0, "enough", 14, 2);
    due(z, 1, "enough", 14, 3);
  }

  private static void stood() {
    at(22, "STOOD by a SHEET, for n: the CELL in which, if THE POT had stood there now and COOKED, PORRIDGE of CELLS k behind n MINUTES and places k that are numbers differ least (signs left out), together; of several the least.");
    LittlePot x = thick();
    x.rule(1, 10);
    x.sheet(0, 1, 24);
    // All dry told: ten parts in a cell that the sheet has not are none to it.
    due(x, 24, "stood", 0, 1, 0);
    due(x, 0, "stood", 0, 1, 1);
    due(x, 0, "stood", 0, 0, 0);
    x.mark(0, 23, 10);
    due(x, 23, "stood", 0, 1, 0);
    due(x, 0, "stood", 0, 1, 1);
    x.mark(0, 5, 10);
    due(x, 5, "stood", 0, 1, 0);
    due(x, 10, "stood", 0, 1, 1);
    x.mark(0, 5, 4);
    // Now 6 and 10 for cell 5, 4 for cell 23.
    due(x, 23, "stood", 0, 1, 0);
    due(x, 4, "stood", 0, 1, 1);
    x.mark(0, 23, NONE);
    // Without that place: 4 for a cell beyond the sheet and for cell 23, 6 for cell 5.
    due(x, 23, "stood", 0, 1, 0);
    due(x, 4, "stood", 0, 1, 1);
    x.mark(0, 5, -99999);
    due(x, 99999, "stood", 0, 1, 1);
    LittlePot y = thick();
    y.sheet(3, 1, 24);
    for (int k = 0; k < 24; k++) y.mark(3, k, k % 2 == 0 ? 99999 : -99999);
    y.rule(1, 10);
    due(y, 0, "stood", 3, 0, 0);
    due(y, 24 * 99999, "stood", 3, 0, 1);
    due(y, 0, "stood", 3, 1, 0);
    due(y, 24 * 99999 - 10, "stood", 3, 1, 1);
    // For 20 minutes, though the pot does not cook now, and stands elsewhere.
    LittlePot z = thick();
    z.rule(1, 1);
    z.cook(30);
    z.say(7);
    z.sheet(1, 0, 24);
    z.mark(1, 7, 19);
    for (int n : new int[] {18, 19}) {
      due(z, 7, "stood", 1, n, 0);
      due(z, 19 - n, "stood", 1, n, 1);
    }
    for (int n = 18; n <= 20; n++) due(z, 0, "behind", n, 0);
    due(z, 30, "town", 4);
    due(z, 0, "town", 5);
    z.rule(2, 0);
    for (int c : new int[] {1, 6, 8, 13}) z.lays(c, 1, 20);
    z.lays(7, 0, 1);
    z.mark(1, 7, 20);
    due(z, 7, "stood", 1, 20, 0);
    due(z, 0, "stood", 1, 20, 1);
    stoodInTheLast();
  }

  /** The last cell alone keeps what is cooked there; from all others it comes down to the first 24. */
  private static void stoodInTheLast() {
    LittlePot x = fresh();
    for (int c = 24; c < 36; c++) x.lays(c, 0, c < 30 ? 10 : 20);
    x.lays(35, 0, 15);
    x.lays(29, 0, 20);
    x.lays(29, 1, 20);
    x.sheet(0, 0, 24);
    due(x, 35, "stood", 0, 2, 0);
    due(x, 0, "stood", 0, 2, 1);
  }

  // ---- 4, texts

  private static void texts() {
    at(27, "TEXTS, 14 at most, numbered from 0, from THE TAPE (96 bytes at most; an act that reads it uses it up, whatever it answers): KEY E.");
    LittlePot x = fresh();
    for (int i = 0; i < 14; i++) same("text " + i, text(x, "fine " + i), i);
    due(x, 14, "count", 6);
    same("a fifteenth", text(x, "fine 1"), FULL);
    due(x, 0, "count", 8);
    same("one with a fault", text(x, "fine"), -104);
    due(x, 0, "count", 8);
    due(x, 14, "count", 6);
    LittlePot y = fresh();
    String row = "fee " + times("1+", 45) + "1 ";
    tape(y, row);
    due(y, 96, "count", 8);
    due(y, 0, "text");
    due(y, 46, "fee");
    due(y, 46, "textTold", 0, 1);
    due(y, 0, "count", 8);
    due(y, -100, "text");
    // Nothing is left of a text that had a fault, wherever it was, nor of a longer one.
    LittlePot z = fresh();
    String[] spoilt = {"fee 1 2", "fee !1)", "fee ((((((((1", "fee !!!!!!!!x", "boil 1+2*(3", "nothing", "fee 12345"};
    for (String spoiltRow : spoilt) {
      same("a fault in '" + spoiltRow + "'", text(z, spoiltRow) <= -100 ? 1 : 0, 1);
      int number = z.count(6);
      same("behind '" + spoiltRow + "'", text(z, "fee 7"), number);
      due(z, 7, "fee");
      due(z, 1, "textTold", number, 0);
      due(z, 1, "textTold", number, 1);
    }
    at(27, "KEY: boil | fee | fine.");
    good("boil 1");
    good("fee 1");
    good("fine 1");
    for (String key : new String[] {"boi", "boill", "oil", "fe", "fees", "fin", "fines", "bine", "foil", "f", "a", "Boil", "1", "(", "feefee"}) fault(key + " 1", 0);
    fault("fee boil", 4);
    fault("1 fee", 0);
  }

  private static void grammar() {
    at(27, "E, the loosest first: OR: AND { | AND }; AND: TEST { & TEST }; TEST: SUM [ (< | = | >) SUM ]; SUM: TERM { (+ | -) TERM }; TERM: PIECE { (* | /) PIECE };");
    gives("1|0&0", 1);
    gives("0&0|1", 1);
    gives("0&(0|1)", 0);
    gives("2=2&3=3", 1);
    gives("1&2=2", 1);
    gives("2&1=1", 1);
    gives("4=3+1", 1);
    gives("3+1=4", 1);
    gives("1+2*3", 7);
    gives("2*3+1", 7);
    gives("9-4-3", 2);
    gives("9-4+3", 8);
    gives("48/4/3", 4);
    gives("7/2*2", 6);
    gives("2*7/2", 7);
    gives("1|1|0", 1);
    gives("1&1&0", 0);
    for (char sign : "|&<=>+-*/".toCharArray()) {
      good("fee 1" + sign + "1");
      fault("fee 1" + sign, 6);
      fault("fee " + sign + "1", 4);
      fault("fee 1" + sign + sign + "1", 6);
    }
    for (char sign : "|&+-*/".toCharArray()) good("fee 1" + sign + "1" + sign + "1");
    // One test in a TEST, and no more.
    for (char a : "<=>".toCharArray()) {
      for (char b : "<=>".toCharArray()) {
        fault("fee 1" + a + "1" + b + "1", 7);
        good("fee (1" + a + "1)" + b + "1");
        good("fee 1" + a + "(1" + b + "1)");
        good("fee 1" + a + "1&1" + b + "1");
        good("fee 1" + a + "1|1" + b + "1");
      }
    }
    fault("fee 1<=1", 6);
    fault("fee 1==1", 6);
  }

  private static void pieces() {
    at(27, "PIECE: NUMBER (1 to 4 digits) | NAME | ! PIECE | ( E ).");
    gives("0", 0);
    gives("9", 9);
    gives("9999", 9999);
    gives("0000", 0);
    gives("0009", 9);
    fault("fee 10000", 4);
    fault("fee 00000", 4);
    fault("fee 1+99999", 6);
    fault("fee 123456789", 4);
    gives("!0", 1);
    gives("!1", 0);
    gives("!9999", 0);
    gives("!(0-1)", 0);
    gives("!!5", 1);
    gives("!0*5", 5);
    gives("5*!0", 5);
    gives("(7)", 7);
    fault("fee ()", 5);
    fault("fee !", 5);
    fault("fee (", 5);
    fault("fee !)", 5);
    fault("fee 1!", 5);
    fault("fee 1(", 5);
    fault("fee -1", 4);
  }

  private static void names() {
    at(27, "NAMES, each one letter: of boil b BOIL, t THE MINUTE, p PORRIDGE where THE POT is;");
    String[] keys = {"boil", "fee", "fine"};
    String[] own = {"btp", "ap", "ac"};
    for (int k = 0; k < 3; k++) {
      for (char c = 'a'; c <= 'z'; c++) {
        if (own[k].indexOf(c) >= 0) {
          good(keys[k] + " " + c);
          fault(keys[k] + " " + c + c, keys[k].length() + 1);
        } else {
          fault(keys[k] + " " + c, keys[k].length() + 1);
        }
        fault(keys[k] + " " + Character.toUpperCase(c), keys[k].length() + 1);
      }
    }
    LittlePot x = thick();
    x.rule(1, 99);
    text(x, "boil b");
    due(x, 99, "town", 3);
    x.rule(1, 0);
    due(x, 0, "town", 3);
    text(x, "boil t");
    due(x, 0, "town", 3);
    x.minutes(60);
    due(x, 60, "town", 3);
    text(x, "boil p");
    due(x, 0, "town", 3);
    x.cook(35);
    x.lays(35, 2, 19);
    x.lays(0, 2, 7);
    due(x, 19, "town", 3);
    LittlePot late = fresh();
    late(late);
    text(late, "boil t-9950");
    due(late, 49, "town", 3);
    at(23, "of fee a ATE of all, p PORRIDGE of all (what fee gives is told by fee(); without a TEXT: ATE of all);");
    LittlePot y = thick();
    due(y, 0, "fee");
    for (int i = 0; i < 8; i++) y.eater(1, i % 2 == 0 ? 0 : 35);
    y.lays(0, 2, 999);
    y.lays(35, 2, 999);
    y.minutes(1);
    due(y, 64, "fee");
    text(y, "fee a");
    due(y, 64, "fee");
    text(y, "fee p");
    due(y, 2 * 999 - 64, "fee");
    at(24, "of fine a ATE, c CELL (what fine gives for an EATER is told by fine(); without a TEXT: ATE).");
    due(y, 8, "fine", 0);
    due(y, 8, "fine", 7);
    text(y, "fine c");
    due(y, 0, "fine", 0);
    due(y, 35, "fine", 7);
    text(y, "fine a");
    due(y, 8, "fine", 7);
    due(y, BAD, "fine", 8);
  }

  private static void words() {
    at(27, "A word is a row of letters a .. z, or of digits, as long as it goes; any other byte is a sign by itself.");
    // The bytes right ahead of and behind letters and digits are signs, of which only / is one of a text's.
    for (int b = 0; b < 256; b++) {
      char c = (char) b;
      boolean goesOn = " |&<=>+-*/".indexOf(c) >= 0;
      boolean letter = b >= 'a' && b <= 'z';
      if (b == ' ') {
        good("fee 1" + c);
      } else if (b >= '0' && b <= '9') {
        good("fee 1" + c);
        good("fee " + c);
      } else if (goesOn) {
        fault("fee 1" + c, 6);
        good("fee 1" + c + "1");
      } else {
        fault("fee 1" + c, 5);
      }
      if (letter) fault("fee" + c + " 1", 0);
      else if (b == ' ' || b == '!') good("fee" + c + " 1");
      else if (b == '(') fault("fee" + c + " 1", 6);
      else fault("fee" + c + " 1", 3);
      if (letter && c != 'a' && c != 'p') fault("fee " + c, 4);
    }
    fault("fee ap", 4);
    fault("fee 1a", 5);
    fault("fee a1", 5);
  }

  private static void blanks() {
    at(27, "Between words and signs, and at the ends, there may be blanks (byte 32); a word right behind another one needs one.");
    good("   fee   a   +   (   1   )   *   !   !   p   ");
    good("fee a+(1)*!!p");
    good("fee(a)");
    good("fee!a");
    good("fee (a)&(p)");
    fault("feea", 0);
    fault("fee1", 3);
    fault("fee 1 1", 6);
    fault("fee a p", 6);
    fault("fee a 1", 6);
    fault("fee 1a", 5);
    fault("fee a1", 5);
    fault("fee 12 34", 7);
    for (char c : new char[] {0, 9, 10, 13, 31, 34, 127, 160}) {
      fault("fee" + c + "1", 3);
      fault(c + "fee 1", 0);
      fault("fee 1" + c, 5);
    }
  }

  private static void faults() {
    at(27, "FAULT: the first byte of the first word or sign with which no TEXT goes on (a word that needs a blank ahead of it, a NUMBER of more than 4 digits,");
    fault("fee a12", 5);
    fault("fee 12ab", 6);
    fault("boil1", 4);
    fault("boil12345", 4);
    fault("fee 1234a", 8);
    fault("fee 12345a", 4);
    fault("fee a+12345", 6);
    good("fee 1234");
    fault("fee a  )", 7);
    fault("fee a b c", 6);
    fault("  nothing", 2);
    at(27, "the ninth ( that would be open within others, the ninth ! likewise, each by itself);");
    good("fee " + times("(", 8) + "1" + times(")", 8));
    fault("fee " + times("(", 9) + "1" + times(")", 9), 12);
    fault("fee " + times("(", 10) + "1", 12);
    good("fee " + times("(", 8) + "1" + times(")", 8) + "+" + times("(", 8) + "1" + times(")", 8));
    fault("fee " + times("(", 8) + "1" + times(")", 8) + "+" + times("(", 9) + "1", 30);
    good("fee " + times("(", 7) + "(1)+(1)+(1)" + times(")", 7));
    fault("fee " + times("(", 7) + "(1)+((1))" + times(")", 7), 16);
    good("fee " + times("!", 8) + "1");
    fault("fee " + times("!", 9) + "1", 12);
    good("fee " + times("!", 8) + "1+" + times("!", 8) + "1");
    fault("fee " + times("!", 8) + "1+" + times("!", 9) + "1", 22);
    good("fee " + times("!", 8) + times("(", 8) + "1" + times(")", 8));
    good("fee " + times("(", 8) + times("!", 8) + "1" + times(")", 8));
    good("fee " + times("!(", 8) + "1" + times(")", 8));
    good("fee " + times("(!", 8) + "1" + times(")", 8));
    fault("fee " + times("!(", 8) + "!1" + times(")", 8), 20);
    fault("fee " + times("!(", 8) + "(1)" + times(")", 8), 20);
    good("fee " + times("!", 8) + "(1)+!1");
    good("fee (" + times("!", 8) + "1)+" + times("!", 8) + "(1)");
    at(27, "the end (the place behind the last byte), if it comes too soon.");
    fault("", 0);
    fault("  ", 2);
    fault("fee", 3);
    fault("fee ", 4);
    fault("fee   ", 6);
    fault("fee 1+", 6);
    fault("fee 1+  ", 8);
    fault("fee (1", 6);
    fault("fee (1 ", 7);
    fault("fee ((1)", 8);
    fault("fee !", 5);
    fault(times(" ", 95) + " ", 96);
    fault("fee " + times("1+", 46), 96);
    fault("fee " + times("1+", 45) + "(1", 96);
    fault("fee " + times("1+", 45) + "1)", 95);
  }

  private static void workedOut() {
    at(23, "Ints wrap; / is 0 by 0; tests, & | ! give 1 or 0 (what is not 0 is true; both sides are worked out).");
    gives("8192*8192*32", LOW);
    gives("8192*8192*32-1", HIGH);
    gives("8192*8192*32/(0-1)", LOW);
    gives("8192*8192*64", 0);
    gives("9999*9999*9999", (int) (9999L * 9999L * 9999L));
    gives("(8192*8192*32-1)+1", LOW);
    gives("0-8192*8192*32", LOW);
    gives("7/0", 0);
    gives("0/0", 0);
    gives("(0-7)/0", 0);
    gives("7/(3-3)+5", 5);
    int[][] pairs = {{0, 0}, {0, 1}, {1, 0}, {1, 1}, {5, 6}, {6, 5}, {9999, 9998}};
    for (int[] p : pairs) {
      gives(p[0] + "<" + p[1], p[0] < p[1] ? 1 : 0);
      gives(p[0] + "=" + p[1], p[0] == p[1] ? 1 : 0);
      gives(p[0] + ">" + p[1], p[0] > p[1] ? 1 : 0);
      gives(p[0] + "&" + p[1], p[0] != 0 && p[1] != 0 ? 1 : 0);
      gives(p[0] + "|" + p[1], p[0] != 0 || p[1] != 0 ? 1 : 0);
    }
    gives("(0-1)<0", 1);
    gives("0>(0-1)", 1);
    gives("8192*8192*32<8192*8192*32-1", 1);
    gives("8192*8192*32>8192*8192*32-1", 0);
    gives("(0-5)&(0-6)", 1);
    gives("(0-5)|0", 1);
    gives("!(0-5)", 0);
    gives("0&(1/0)", 0);
    gives("1|(1/0)", 1);
  }

  private static void counts() {
    at(29, "Of a KEY that TEXT counts that was told last.");
    LittlePot x = fresh();
    for (int i = 0; i < 14; i++) {
      text(x, "fee " + (100 + i));
      due(x, i, "why", 1);
      due(x, 100 + i, "fee");
    }
    text(x, "fee 7");
    text(x, "fee )");
    due(x, 13, "why", 1);
    due(x, 113, "fee");
    due(x, NONE, "why", 0);
    due(x, NONE, "why", 2);
    due(x, 20, "town", 3);
    LittlePot y = fresh();
    text(y, "boil 1");
    text(y, "fee 2");
    text(y, "boil 3");
    text(y, "fine 4");
    due(y, 2, "why", 0);
    due(y, 1, "why", 1);
    due(y, 3, "why", 2);
    due(y, 3, "town", 3);
  }

  // ---- 5, sheets, slots, images

  private static void sheets() {
    at(30, "SHEETS 0 .. 3 are rows of shorts (sort 0) or floats (1; whole numbers), with 0 to 24 places, or MISSING (at first). A place of floats may be NO NUMBER.");
    for (int s = 0; s < 4; s++) {
      LittlePot x = fresh();
      due(x, NOTHING, "reads", s);
      due(x, NOTHING, "mark", s, 0, 0);
      for (int sort = 0; sort < 2; sort++) {
        due(x, 24, "sheet", s, sort, 24);
        due(x, BAD, "sheet", s, sort, 25);
        due(x, SIZE, "sheet", s, sort, -1);
        due(x, 1, "mark", s, 23, 70000);
        x.lay(0, 2, s);
        due(x, sort == 0 ? 70000 - 65536 : 70000, "item", 0, 23);
        due(x, INDEX, "item", 0, 24);
        due(x, sort == 0 ? KIND : 1, "mark", s, 0, NONE);
        due(x, 0, "sheet", s, sort, 0);
        due(x, NONE, "reads", s);
        due(x, INDEX, "mark", s, 0, 0);
      }
    }
    due(fresh(), BAD, "sheet", 4, 0, 0);
    due(fresh(), BAD, "sheet", -1, 0, 0);
  }

  private static void slots() {
    at(35, "SLOTS 0 .. 4 each hold nothing (at first), an EATER (as it is then, for good), a SHEET (a row of its own, as it was then), or a number.");
    for (int slot = 0; slot < 5; slot++) {
      LittlePot x = thick();
      due(x, NOTHING, "ask", slot, 0);
      due(x, NOTHING, "item", slot, 0);
      due(x, NOTHING, "rest", slot, 1);
      x.keep();
      x.eater(1, 0);
      x.lays(0, 2, 19);
      x.minutes(1);
      due(x, 0, "lay", slot, 1, 0);
      due(x, 16, "ask", slot, 1);
      // It eats on, turns, is gone: the slot's stays as it was.
      x.minutes(1);
      due(x, 16, "ask", slot, 1);
      x.turns(0, 5);
      due(x, 16, "ask", slot, 1);
      due(x, KIND, "ask", slot, 5);
      due(x, 0, "back");
      due(x, 16, "ask", slot, 1);
      x.sheet(3, 1, 2);
      x.mark(3, 0, 5);
      x.mark(3, 1, NONE);
      due(x, 1, "lay", slot, 2, 3);
      x.mark(3, 0, 6);
      x.mark(3, 1, 7);
      due(x, 5, "item", slot, 0);
      due(x, KIND, "item", slot, 1);
      x.sheet(3, 0, 24);
      due(x, INDEX, "item", slot, 2);
      x.sheet(3, -1, 0);
      due(x, 5, "item", slot, 0);
      due(x, 2, "lay", slot, 3, LOW);
      due(x, -8, "rest", slot, 10);
      due(x, 3, "lay", slot, 0, 0);
      due(x, NOTHING, "rest", slot, 10);
    }
    due(fresh(), BAD, "lay", 5, 0, 0);
    due(fresh(), BAD, "lay", -1, 0, 0);
    // Two slots that hold the same sheet have each a row of their own.
    LittlePot y = fresh();
    y.sheet(0, 0, 1);
    y.mark(0, 0, 1);
    y.lay(0, 2, 0);
    y.mark(0, 0, 2);
    y.lay(1, 2, 0);
    due(y, 1, "item", 0, 0);
    due(y, 2, "item", 1, 0);
  }

  private static void findings() {
    at(37, "FINDINGS: NOTHING: a SHEET is MISSING, a SLOT holds nothing; INDEX: there is no such place; SIZE: a number of places is below 0; KIND: it is none (of a KIND, a number, or another thing).");
    leaves(NOTHING, "pour", 3);
    leaves(NOTHING, "reads", 3);
    leaves(NOTHING, "stood", 3, 1, 0);
    leaves(NOTHING, "item", 0, 0);
    leaves(NOTHING, "ask", 0, 0);
    leaves(NOTHING, "rest", 0, 1);
    leaves(INDEX, "item", 2, 2);
    leaves(INDEX, "item", 2, -1);
    leaves(INDEX, "mark", 1, 2, 0);
    leaves(SIZE, "sheet", 1, 1, -1);
    leaves(KIND, "as", 0, 2);
    leaves(KIND, "item", 2, 1);
    leaves(KIND, "item", 3, 0);
    leaves(KIND, "rest", 2, 1);
    leaves(KIND, "ask", 3, 0);
  }

  private static void images() {
    at(42, "AN IMAGE keeps all but SHEETS, SLOTS, numbers that wait, THE TAPE; all can become as it is (again and again).");
    LittlePot x = rich();
    LittlePot y = rich();
    // The image is one of minute 3, with two texts; what is now is minute 4, with three.
    due(x, 5, "back");
    due(x, 3, "count", 1);
    due(x, 2, "count", 6);
    due(x, 7, "count", 2);
    due(x, NONE, "why", 1);
    due(x, 4, "count", 7);
    due(x, 5, "count", 8);
    due(x, -5, "item", 2, 0);
    due(x, 2, "rest", 3, 5);
    due(x, 1, "mark", 0, 2, 0);
    due(x, NOTHING, "pour", 3);
    due(x, y.ask(1, 2), "ask", 1, 2);
    due(x, 0, "check", 2);
    int z = x.count(9);
    int porridge = x.town(0);
    for (int again = 0; again < 3; again++) {
      x.deal(3);
      x.minutes(60);
      x.cook(1);
      x.say(7);
      text(x, "fee 1");
      due(x, 5, "back");
      due(x, z, "count", 9);
      due(x, porridge, "town", 0);
      due(x, 14, "town", 4);
      due(x, 1, "town", 5);
      due(x, 2, "count", 6);
      due(x, 3, "count", 1);
    }
    // Texts that came behind the image make room again.
    for (int i = 2; i < 14; i++) same("text", text(x, "fee " + i), i);
    same("full", text(x, "fee 1"), FULL);
    due(x, 5, "back");
    for (int i = 2; i < 14; i++) due(x, BAD, "textTold", i, 0);
    due(x, 2, "textTold", 1, 0);
    same("room again", text(x, "boil 5"), 2);
    due(x, 0, "textTold", 2, 0);
    due(x, 1, "textTold", 2, 1);
    due(x, BAD, "textTold", 3, 0);
    due(x, 5, "town", 3);
    keepsFirstAndLast();
    // A later image takes the place of the one that was.
    due(x, 5, "keep");
    x.minutes(9);
    due(x, 5, "back");
    due(x, 3, "count", 6);
    due(x, 5, "town", 3);
  }

  private static void keepsFirstAndLast() {
    LittlePot x = thick();
    for (int e = 0; e < 8; e++) x.eater(e == 0 ? 3 : 1, e % 2 == 0 ? 0 : 35);
    for (int c = 0; c < 36; c += 35) {
      x.lays(c, 0, 3);
      x.lays(c, 1, 4);
      x.lays(c, 2, 60);
    }
    x.minutes(1);
    int[] cell = {x.cell(0, 2), x.cell(35, 2)};
    int[] where = {x.told(0, 1), x.told(7, 1)};
    int[] ate = {x.told(0, 2), x.told(7, 2)};
    due(x, 8, "keep");
    for (int c = 0; c < 36; c += 35) for (int w = 0; w < 3; w++) x.lays(c, w, 1);
    for (int e = 0; e < 8; e++) x.turns(e, 5);
    for (int e = 0; e < 8; e++) x.sends(e, 14);
    x.lays(14, 2, 999);
    x.minutes(1);
    due(x, 8, "back");
    for (int i = 0; i < 2; i++) {
      due(x, 3, "cell", 35 * i, 0);
      due(x, 4, "cell", 35 * i, 1);
      due(x, cell[i], "cell", 35 * i, 2);
      due(x, i == 0 ? 3 : 1, "told", 7 * i, 0);
      due(x, where[i], "told", 7 * i, 1);
      due(x, ate[i], "told", 7 * i, 2);
    }
  }

  private static void minutesTold() {
    at(40, "THE MINUTES TOLD: of n MINUTES, one behind the other, by THE IMAGE: PORRIDGE of all, together; ATE of all, together, behind each.");
    for (int n : new int[] {1, 30}) {
      LittlePot x = rich();
      x.back();
      x.check(1);
      for (int i = 1; i <= n; i++) {
        x.tell(x.behind(i, 0));
        x.tell(x.behind(i, 1));
      }
      // By the image, whatever is now.
      x.deal(3);
      x.cook(3);
      x.seed(3);
      x.rule(3, 0);
      text(x, "boil 99");
      x.minutes(7);
      int z = x.count(9);
      due(x, 0, "check", n);
      due(x, z, "count", 9);
      due(x, 10, "count", 1);
      due(x, 5, "back");
      due(x, 3, "count", 1);
    }
    LittlePot late = fresh();
    late(late);
    late.cook(0);
    due(late, 0, "keep");
    due(late, 0, "check", 30);
    due(late, 1, "tell", 20);
    due(late, 1, "check", 30);
  }
}
