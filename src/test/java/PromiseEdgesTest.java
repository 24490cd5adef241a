/**
 * The edges that the document names with each promise: the least and the greatest that is taken, the first that is
 * refused on either side, what is empty or full, and which of several refusals is answered. A call that is refused,
 * and one that only tells, must leave all as it was.
 */
public final class PromiseEdgesTest extends Edges {
  public static void main(String[] args) {
    newObject();
    eater();
    told();
    cell();
    lays();
    as();
    turns();
    sends();
    cook();
    say();
    rule();
    deal();
    seed();
    minutes();
    town();
    path();
    behind();
    wets();
    deepest();
    walled();
    enough();
    stood();
    fee();
    fine();
    feed();
    trim();
    text();
    textTold();
    why();
    sheet();
    mark();
    pour();
    reads();
    copy();
    lay();
    ask();
    item();
    rest();
    tell();
    check();
    keep();
    back();
    count();
    for (int promise = 1; promise <= 43; promise++) allIsQuoted("promise " + promise, section(promise));
    ends("edges of the promises");
  }

  // ---- the town, eaters

  private static void newObject() {
    at(1, "As told; no EATERS.");
    int[] counts = {0, 0, 7, 20, 0, 0, 0, 0, 0, 1};
    for (int i = 0; i < counts.length; i++) due(fresh(), counts[i], "count", i);
    int[] town = {0, 0, 0, 20, 0, 0};
    for (int i = 0; i < town.length; i++) due(fresh(), town[i], "town", i);
    for (int i = 0; i < 6; i++) due(fresh(), BAD, "told", 0, i);
    due(fresh(), BAD, "fine", 0);
    due(fresh(), 0, "fee");
    due(fresh(), BAD, "lay", 0, 1, 0);
    due(fresh(), NO, "back");
    due(fresh(), NO, "check", 1);
    due(fresh(), NO, "say", 7);
    for (int i = 0; i < 3; i++) due(fresh(), NONE, "why", i);
    due(fresh(), BAD, "textTold", 0, 0);
    for (int i = 0; i < 4; i++) due(fresh(), NOTHING, "pour", i);
    for (int i = 0; i < 5; i++) due(fresh(), NOTHING, "item", i, 0);
  }

  private static LittlePot eight() {
    LittlePot x = rich();
    for (int i = 5; i < 8; i++) x.eater(0, i);
    return x;
  }

  private static void eater() {
    at(2, "One more EATER: its number.");
    LittlePot x = fresh();
    for (int i = 0; i < 8; i++) {
      due(x, i, "eater", i % 6, i < 4 ? 0 : 35);
      due(x, i + 1, "count", 0);
      due(x, i % 6, "told", i, 0);
      due(x, i < 4 ? 0 : 35, "told", i, 1);
      due(x, 0, "told", i, 2);
    }
    at(2, "BAD; FULL.");
    for (int kind : new int[] {-1, 6, LOW, HIGH}) leaves(BAD, "eater", kind, 0);
    for (int cell : new int[] {-1, 36, LOW, HIGH}) leaves(BAD, "eater", 0, cell);
    leaves(PromiseEdgesTest::eight, FULL, "eater", 0, 0);
    leaves(PromiseEdgesTest::eight, FULL, "eater", 5, 35);
    leaves(PromiseEdgesTest::eight, BAD, "eater", 6, 0);
    leaves(PromiseEdgesTest::eight, BAD, "eater", 0, 36);
  }

  private static void told() {
    at(3, "Of an EATER: what 0 KIND, 1 CELL, 2 ATE, 3 EATS, 4 WADES, 5 WORTH.");
    LittlePot x = fresh();
    x.eater(3, 35);
    for (int i = 1; i < 8; i++) x.eater(5, i);
    x.lays(35, 2, 20);
    x.minutes(1);
    // Half of the twenty went to the left; the giant ate the other ten, and went after them.
    int[] giant = {3, 34, 10, 16, 999, 36};
    int[] dog = {5, 7, 0, 4, 60, 5};
    for (int i = 0; i < 6; i++) due(x, giant[i], "told", 0, i);
    for (int i = 0; i < 6; i++) due(x, dog[i], "told", 7, i);
    leaves(1, "told", 0, 0);
    leaves(5, "told", 4, 5);
    at(3, "BAD.");
    for (int eater : new int[] {-1, 5, 8, LOW, HIGH}) leaves(BAD, "told", eater, 0);
    for (int what : new int[] {-1, 6, LOW, HIGH}) leaves(BAD, "told", 0, what);
    due(x, BAD, "told", 8, 0);
  }

  private static void cell() {
    at(4, "Of a CELL: what 0 HEIGHT, 1 WALL, 2 PORRIDGE, 3 LEVEL.");
    for (int c : new int[] {0, 35}) {
      LittlePot x = fresh();
      int[] most = {20, 20, 999, 1399};
      for (int i = 0; i < 4; i++) due(x, 0, "cell", c, i);
      for (int i = 0; i < 3; i++) x.lays(c, i, most[i]);
      for (int i = 0; i < 4; i++) due(x, most[i], "cell", c, i);
      for (int i = 0; i < 4; i++) due(x, 0, "cell", 35 - c, i);
    }
    at(4, "BAD.");
    for (int c : new int[] {-1, 36, LOW, HIGH}) leaves(BAD, "cell", c, 0);
    for (int what : new int[] {-1, 4, LOW, HIGH}) leaves(BAD, "cell", 0, what);
  }

  private static void lays() {
    at(5, "HEIGHT, WALL (0 .. 20), PORRIDGE (0 .. 999) (what 0 .. 2) of a CELL becomes v: what it was.");
    int[] most = {20, 20, 999};
    for (int c : new int[] {0, 35}) {
      for (int i = 0; i < 3; i++) {
        LittlePot x = fresh();
        due(x, 0, "lays", c, i, most[i]);
        due(x, most[i], "cell", c, i);
        due(x, most[i], "lays", c, i, 0);
        due(x, 0, "cell", c, i);
        due(x, 0, "lays", c, i, 1);
      }
    }
    // What is cooked may stand above 999; it is told, and can only be laid lower.
    LittlePot deep = thick();
    deep.rule(1, 99);
    deep.lays(0, 2, 999);
    for (int c = 1; c < 36; c++) deep.lays(c, 2, 999);
    deep.cook(0);
    deep.minutes(1);
    due(deep, 999 + 99 - 4, "lays", 0, 2, 999);
    due(deep, 999, "cell", 0, 2);
    at(5, "BAD.");
    for (int c : new int[] {-1, 36, LOW, HIGH}) leaves(BAD, "lays", c, 0, 0);
    for (int what : new int[] {-1, 3, LOW, HIGH}) leaves(BAD, "lays", 0, what, 0);
    for (int i = 0; i < 3; i++) for (int v : new int[] {-1, most[i] + 1, LOW, HIGH}) leaves(BAD, "lays", 12, i, v);
  }

  private static void as() {
    at(6, "An EATER as one of a KIND: ATE.");
    LittlePot x = fresh();
    for (int k = 0; k < 8; k++) x.eater(k % 6, 35);
    x.sends(0, 0);
    x.sends(7, 5);
    x.lays(0, 2, 1);
    x.lays(5, 2, 999);
    x.minutes(1);
    due(x, 1, "as", 0, 0);
    due(x, 8, "as", 7, 1);
    due(x, 8, "as", 7, 0);
    due(x, 0, "as", 5, 5);
    at(6, "BAD: eater, kind; KIND: it is not of that KIND, nor of one under it.");
    for (int eater : new int[] {-1, 5, LOW, HIGH}) leaves(BAD, "as", eater, 0);
    for (int kind : new int[] {-1, 6, LOW, HIGH}) leaves(BAD, "as", 0, kind);
    // The eaters there are a glutton, a child, a giant, a baby and a dog.
    leaves(KIND, "as", 0, 3);
    leaves(KIND, "as", 0, 2);
    leaves(KIND, "as", 4, 1);
    leaves(BAD, "as", 5, 3);
    leaves(BAD, "as", 0, 6);
  }

  private static void turns() {
    at(7, "An EATER is of another KIND from now on: what it was.");
    LittlePot x = fresh();
    for (int k = 0; k < 8; k++) x.eater(0, 14);
    for (int e : new int[] {0, 7}) {
      due(x, 0, "turns", e, 5);
      due(x, 5, "told", e, 0);
      due(x, 5, "turns", e, 0);
      due(x, 0, "told", e, 0);
      due(x, 0, "turns", e, 3);
      due(x, 16, "told", e, 3);
      due(x, 999, "told", e, 4);
      due(x, 14, "told", e, 1);
    }
    at(7, "BAD.");
    for (int eater : new int[] {-1, 5, LOW, HIGH}) leaves(BAD, "turns", eater, 0);
    for (int kind : new int[] {-1, 6, LOW, HIGH}) leaves(BAD, "turns", 0, kind);
    due(x, BAD, "turns", 8, 0);
    due(fresh(), BAD, "turns", 0, 0);
  }

  private static void sends() {
    at(8, "An EATER is sent to a CELL: where it was.");
    LittlePot x = fresh();
    for (int k = 0; k < 8; k++) x.eater(0, 14);
    for (int e : new int[] {0, 7}) {
      due(x, 14, "sends", e, 35);
      due(x, 35, "told", e, 1);
      due(x, 35, "sends", e, 0);
      due(x, 0, "told", e, 1);
      due(x, 0, "sends", e, 0);
    }
    due(x, 14, "told", 1, 1);
    at(8, "BAD.");
    for (int eater : new int[] {-1, 5, LOW, HIGH}) leaves(BAD, "sends", eater, 0);
    for (int cell : new int[] {-1, 36, LOW, HIGH}) leaves(BAD, "sends", 0, cell);
    due(x, BAD, "sends", 8, 0);
    due(fresh(), BAD, "sends", 0, 0);
  }

  private static void cook() {
    at(9, "THE POT COOKS from now on, in a CELL: where it was.");
    LittlePot x = fresh();
    due(x, 0, "cook", 35);
    due(x, 35, "town", 4);
    due(x, 1, "town", 5);
    due(x, 35, "cook", 0);
    due(x, 0, "town", 4);
    due(x, 0, "cook", 0);
    x.say(7);
    due(x, 0, "town", 4);
    due(x, 0, "cook", 9);
    due(x, 1, "town", 5);
    at(9, "BAD.");
    for (int cell : new int[] {-1, 36, LOW, HIGH}) {
      leaves(BAD, "cook", cell);
      leaves(Edges::fresh, BAD, "cook", cell);
    }
  }

  private static void say() {
    at(10, "A word (0 .. 9) is said to THE POT: 0 it was THE WORD: it COOKS no more;");
    for (int word = 0; word < 10; word++) {
      LittlePot x = said(word, 50, 5);
      due(x, 0, "say", word);
      due(x, 0, "town", 5);
      due(x, 5, "count", 4);
      due(x, 50, "count", 3);
      due(x, NO, "say", word);
    }
    at(10, "1 it was the next one (0 behind 9): THICK is 1 more (9 at most);");
    for (int word = 0; word < 10; word++) {
      LittlePot x = said(word, 50, 7);
      for (int thick : new int[] {8, 9, 9}) {
        due(x, 1, "say", word == 9 ? 0 : word + 1);
        due(x, thick, "count", 4);
      }
      due(x, 50, "count", 3);
      due(x, 1, "town", 5);
      due(x, word, "count", 2);
    }
    at(10, "2 it was the one ahead (9 ahead of 0): BOIL is 5 more (99 at most);");
    for (int word = 0; word < 10; word++) {
      LittlePot x = said(word, 89, 0);
      for (int boil : new int[] {94, 99, 99}) {
        due(x, 2, "say", word == 0 ? 9 : word - 1);
        due(x, boil, "count", 3);
      }
      due(x, 0, "count", 4);
      due(x, 1, "town", 5);
    }
    for (int boil = 95; boil <= 98; boil++) {
      LittlePot x = said(5, boil, 0);
      due(x, 2, "say", 4);
      due(x, 99, "count", 3);
    }
    at(10, "3 another one: nothing.");
    for (int word = 0; word < 10; word++) {
      LittlePot x = said(word, 30, 3);
      for (int far = 2; far <= 8; far++) due(x, 3, "say", (word + far) % 10);
      due(x, 1, "town", 5);
      due(x, 3, "count", 4);
      due(x, 30, "count", 3);
      due(x, word, "count", 2);
    }
    leaves(3, "say", 0);
    leaves(3, "say", 9);
    at(10, "BAD; NO: it does not COOK.");
    for (int word : new int[] {-1, 10, LOW, HIGH}) {
      leaves(BAD, "say", word);
      leaves(Edges::fresh, BAD, "say", word);
    }
    for (int word = 0; word < 10; word++) leaves(Edges::fresh, NO, "say", word);
  }

  private static LittlePot said(int word, int boil, int thick) {
    LittlePot x = fresh();
    x.rule(0, word);
    x.rule(1, boil);
    x.rule(2, thick);
    x.cook(8);
    return x;
  }

  private static void rule() {
    at(11, "THE WORD, BOIL, THICK, MICE (what 0 .. 3) becomes v: what it was.");
    int[] first = {7, 20, 0, 0};
    int[] most = {9, 99, 9, 100};
    for (int i = 0; i < 4; i++) {
      LittlePot x = fresh();
      due(x, first[i], "rule", i, most[i]);
      due(x, most[i], "count", 2 + i);
      due(x, most[i], "rule", i, 0);
      due(x, 0, "count", 2 + i);
      due(x, 0, "rule", i, 1);
      for (int o = 0; o < 4; o++) if (o != i) due(x, first[o], "count", 2 + o);
    }
    at(11, "BAD.");
    for (int what : new int[] {-1, 4, LOW, HIGH}) leaves(BAD, "rule", what, 0);
    for (int i = 0; i < 4; i++) for (int v : new int[] {-1, most[i] + 1, LOW, HIGH}) leaves(BAD, "rule", i, v);
  }

  private static void deal() {
    at(12, "EATERS are drawn, n (1 .. 8) of them, as many as there is room for (no draws for others): how many came.");
    for (int there = 0; there <= 8; there++) {
      for (int n : new int[] {1, 8}) {
        LittlePot x = fresh();
        for (int i = 0; i < there; i++) x.eater(0, 0);
        int come = Math.min(n, 8 - there);
        due(x, come, "deal", n);
        due(x, there + come, "count", 0);
        int z = 1;
        for (int i = 0; i < 2 * come; i++) z = drawn(z);
        due(x, z, "count", 9);
      }
    }
    at(12, "BAD.");
    for (int n : new int[] {0, -1, 9, LOW, HIGH}) {
      leaves(BAD, "deal", n);
      leaves(PromiseEdgesTest::eight, BAD, "deal", n);
    }
    leaves(PromiseEdgesTest::eight, 0, "deal", 1);
    leaves(PromiseEdgesTest::eight, 0, "deal", 8);
  }

  private static void seed() {
    at(13, "z becomes v: what it was.");
    LittlePot x = fresh();
    int was = 1;
    for (int v : new int[] {0, -1, LOW, HIGH, BAD, NONE}) {
      due(x, was, "seed", v);
      due(x, v, "count", 9);
      was = v;
    }
  }

  // ---- minutes, ways

  private static void minutes() {
    at(14, "n (1 .. 60) MINUTES (no more than up to 9999): what ATE of all, together, is more by them.");
    for (int n : new int[] {1, 60}) {
      LittlePot x = thick();
      x.eater(0, 14);
      x.eater(2, 20);
      x.lays(14, 2, 18);
      x.lays(20, 2, 19);
      // The child eats on where the eater has left nothing.
      due(x, n == 1 ? 4 : 37, "minutes", n);
      due(x, n, "count", 1);
    }
    LittlePot x = fresh();
    for (int i = 0; i < 165; i++) x.minutes(60);
    x.minutes(39);
    due(x, 9939, "count", 1);
    due(x, 0, "minutes", 60);
    due(x, 9999, "count", 1);
    LittlePot z = fresh();
    for (int i = 0; i < 166; i++) z.minutes(60);
    z.minutes(38);
    due(z, 9998, "count", 1);
    z.eater(0, 0);
    z.lays(0, 2, 9);
    due(z, 3, "minutes", 60);
    due(z, 9999, "count", 1);
    int last = z.count(9);
    due(z, 0, "minutes", 1);
    due(z, 0, "minutes", 60);
    due(z, 9999, "count", 1);
    due(z, last, "count", 9);
    due(z, 3, "town", 1);
    at(14, "BAD.");
    for (int n : new int[] {0, -1, 61, LOW, HIGH}) leaves(BAD, "minutes", n);
    due(z, BAD, "minutes", 0);
    due(z, BAD, "minutes", 61);
  }

  private static void town() {
    at(15, "What is 0 PORRIDGE of all, together, 1 ATE of all, together, 2 how many CELLS have PORRIDGE, 3 POURS,");
    LittlePot x = fresh();
    for (int i = 0; i < 3; i++) due(x, 0, "town", i);
    for (int c = 0; c < 36; c++) x.lays(c, 2, c == 0 || c == 35 ? 999 : 1);
    due(x, 999 + 999 + 34, "town", 0);
    due(x, 36, "town", 2);
    x.lays(35, 2, 0);
    due(x, 35, "town", 2);
    due(x, 20, "town", 3);
    for (int i = 0; i < 8; i++) x.eater(3, 0);
    due(x, 8 * 16, "minutes", 1);
    due(x, 8 * 16, "town", 1);
    at(15, "4 the CELL of THE POT, 5 whether it COOKS (1, 0).");
    due(x, 0, "town", 4);
    due(x, 0, "town", 5);
    x.cook(35);
    due(x, 35, "town", 4);
    due(x, 1, "town", 5);
    at(15, "BAD.");
    for (int what : new int[] {-1, 6, LOW, HIGH}) leaves(BAD, "town", what);
  }

  private static void path() {
    at(16, "WAY from a CELL to another one, with so many parts (0 .. 9999).");
    LittlePot x = fresh();
    due(x, 10, "path", 0, 35, 0);
    due(x, 10, "path", 35, 0, 9999);
    due(x, 0, "path", 0, 0, 0);
    due(x, 0, "path", 35, 35, 9999);
    x.lays(1, 2, 1);
    due(x, 1, "path", 0, 1, 1);
    due(x, NONE, "path", 0, 1, 0);
    at(16, "BAD; NONE: there is none.");
    for (int c : new int[] {-1, 36, LOW, HIGH}) {
      leaves(BAD, "path", c, 0, 0);
      leaves(BAD, "path", 0, c, 0);
    }
    for (int parts : new int[] {-1, 10000, LOW, HIGH}) {
      leaves(BAD, "path", 0, 1, parts);
      leaves(BAD, "path", 0, 0, parts);
    }
    leaves(PromiseEdgesTest::parted, NONE, "path", 0, 35, 4);
    leaves(PromiseEdgesTest::parted, 10, "path", 0, 35, 5);
    // More than 9999 parts in a cell bear nobody.
    LittlePot deep = thick();
    deep.rule(1, 99);
    deep.cook(35);
    for (int i = 0; i < 60; i++) deep.minutes(60);
    same("more than 9999", deep.cell(35, 2) > 9999 ? 1 : 0, 1);
    due(deep, NONE, "path", 0, 35, 9999);
  }

  /** A row of 5 parts from side to side, and nothing else. */
  private static LittlePot parted() {
    LittlePot x = fresh();
    for (int c = 12; c < 18; c++) x.lays(c, 2, 5);
    return x;
  }

  // ---- what will be

  private static void behind() {
    at(17, "BEHIND n (0 .. 60) MINUTES: what 0 PORRIDGE, 1 ATE; 2 and c: PORRIDGE of CELL c.");
    for (int n : new int[] {0, 1, 60}) {
      LittlePot x = rich();
      if (n > 0) x.minutes(n);
      leaves(x.town(0), "behind", n, 0);
      leaves(x.town(1), "behind", n, 1);
      leaves(x.cell(0, 2), "behind", n, 2);
      leaves(x.cell(35, 2), "behind", n, 37);
    }
    LittlePot y = fresh();
    y.lays(0, 2, 8);
    y.lays(35, 2, 9);
    due(y, 17, "behind", 0, 0);
    due(y, 8, "behind", 0, 2);
    due(y, 9, "behind", 0, 37);
    at(17, "BAD.");
    for (int n : new int[] {-1, 61, LOW, HIGH}) leaves(BAD, "behind", n, 0);
    for (int what : new int[] {-1, 38, LOW, HIGH}) leaves(BAD, "behind", 0, what);
  }

  private static void wets() {
    at(18, "WETS of a CELL.");
    LittlePot x = fresh();
    x.lays(0, 2, 1);
    x.lays(35, 2, 1);
    due(x, 0, "wets", 0);
    due(x, 0, "wets", 35);
    leaves(0, "wets", 14);
    at(18, "BAD; NONE: not by then.");
    for (int c : new int[] {-1, 36, LOW, HIGH}) leaves(BAD, "wets", c);
    due(x, NONE, "wets", 14);
    leaves(PromiseEdgesTest::parted, NONE, "wets", 35);
    for (int c = 0; c < 36; c++) due(fresh(), NONE, "wets", c);
  }

  private static void deepest() {
    at(19, "DEEPEST for n (0 .. 60): what 0 the CELL, 1 PORRIDGE.");
    for (int n : new int[] {0, 1, 60}) {
      LittlePot x = rich();
      if (n > 0) x.minutes(n);
      int most = 0;
      for (int c = 1; c < 36; c++) if (x.cell(c, 2) > x.cell(most, 2)) most = c;
      leaves(most, "deepest", n, 0);
      leaves(x.cell(most, 2), "deepest", n, 1);
    }
    due(fresh(), 0, "deepest", 0, 0);
    due(fresh(), 0, "deepest", 60, 1);
    LittlePot y = fresh();
    y.lays(35, 2, 1);
    due(y, 35, "deepest", 0, 0);
    due(y, 1, "deepest", 60, 1);
    at(19, "BAD.");
    for (int n : new int[] {-1, 61, LOW, HIGH}) leaves(BAD, "deepest", n, 0);
    for (int what : new int[] {-1, 2, LOW, HIGH}) leaves(BAD, "deepest", 0, what);
  }

  private static void walled() {
    at(20, "WALLED of a CELL, for n (1 .. 20): what 0 the other CELL (or itself), 1 PORRIDGE.");
    LittlePot x = fresh();
    x.lays(0, 2, 10);
    due(x, 1, "walled", 1, 1, 0);
    due(x, 0, "walled", 1, 1, 1);
    due(x, 0, "walled", 35, 20, 0);
    due(x, 0, "walled", 35, 20, 1);
    LittlePot y = fresh();
    y.lays(35, 2, 20);
    // Behind one minute half of it is still there; a wall beneath it sends all of it away.
    due(y, 35, "walled", 35, 1, 0);
    due(y, 0, "walled", 35, 1, 1);
    leaves(0, "walled", 0, 1, 1);
    at(20, "BAD.");
    for (int c : new int[] {-1, 36, LOW, HIGH}) leaves(BAD, "walled", c, 1, 0);
    for (int n : new int[] {0, -1, 21, LOW, HIGH}) leaves(BAD, "walled", 0, n, 0);
    for (int what : new int[] {-1, 2, LOW, HIGH}) leaves(BAD, "walled", 0, 1, what);
  }

  private static void enough() {
    at(21, "ENOUGH of a CELL, for n (0 .. 40).");
    LittlePot x = fresh();
    due(x, 0, "enough", 0, 0);
    due(x, 40, "enough", 0, 40);
    due(x, 40, "enough", 35, 40);
    x.cook(0);
    due(x, 0, "enough", 0, 0);
    due(x, 0, "enough", 0, 40);
    due(x, 1, "enough", 35, 1);
    at(21, "BAD; NONE: there is none.");
    for (int c : new int[] {-1, 36, LOW, HIGH}) leaves(BAD, "enough", c, 0);
    for (int n : new int[] {-1, 41, LOW, HIGH}) leaves(BAD, "enough", 0, n);
    x.lays(35, 2, 1);
    due(x, NONE, "enough", 35, 0);
    due(x, NONE, "enough", 35, 40);
    leaves(PromiseEdgesTest::parted, NONE, "enough", 14, 0);
    leaves(PromiseEdgesTest::parted, 1, "enough", 0, 1);
  }

  private static void stood() {
    at(22, "STOOD by a SHEET, for n (0 .. 20): what 0 the CELL, 1 the differences, together.");
    for (int s : new int[] {0, 3}) {
      LittlePot x = fresh();
      x.sheet(s, s == 0 ? 0 : 1, 24);
      x.mark(s, 23, 20);
      // Twenty parts stay in cell 23, on its height and within walls; none come there from without.
      x.lays(23, 0, 1);
      for (int c : new int[] {17, 22, 29}) x.lays(c, 1, 20);
      due(x, 0, "stood", s, 0, 0);
      due(x, 20, "stood", s, 0, 1);
      due(x, 23, "stood", s, 1, 0);
      due(x, 0, "stood", s, 1, 1);
    }
    LittlePot none = fresh();
    none.sheet(1, 0, 0);
    due(none, 0, "stood", 1, 20, 0);
    due(none, 0, "stood", 1, 20, 1);
    leaves(0, "stood", 2, 20, 1);
    at(22, "BAD; NOTHING.");
    for (int s : new int[] {-1, 4, LOW, HIGH}) leaves(BAD, "stood", s, 0, 0);
    for (int s : new int[] {0, 3}) {
      for (int n : new int[] {-1, 21, LOW, HIGH}) leaves(BAD, "stood", s, n, 0);
      for (int what : new int[] {-1, 2, LOW, HIGH}) leaves(BAD, "stood", s, 0, what);
    }
    leaves(NOTHING, "stood", 3, 0, 0);
    leaves(NOTHING, "stood", 3, 20, 1);
  }

  private static void fee() {
    at(23, "What fee gives.");
    LittlePot x = fresh();
    due(x, 0, "fee");
    text(x, "fee 0-1");
    due(x, -1, "fee");
    text(x, "fee 8192*8192*32");
    due(x, LOW, "fee");
    text(x, "fee 8192*8192*32-1");
    due(x, HIGH, "fee");
    text(x, "boil 3");
    text(x, "fine 4");
    due(x, HIGH, "fee");
    LittlePot y = rich();
    leaves(y.town(0) + y.town(1), "fee");
  }

  private static void fine() {
    at(24, "What fine gives for an EATER.");
    LittlePot x = fresh();
    for (int e = 0; e < 8; e++) x.eater(3, 5 * e);
    x.lays(0, 2, 5);
    x.lays(35, 2, 999);
    x.minutes(1);
    due(x, 3, "fine", 0);
    due(x, 16, "fine", 7);
    due(x, 0, "fine", 1);
    text(x, "fine a*1000-c");
    due(x, 3000 - 1, "fine", 0);
    due(x, 16000 - 35, "fine", 7);
    text(x, "fine 8192*8192*32");
    due(x, LOW, "fine", 7);
    at(24, "BAD.");
    for (int e : new int[] {-1, 5, LOW, HIGH}) leaves(BAD, "fine", e);
    due(x, BAD, "fine", 8);
    due(x, BAD, "fine", -1);
  }

  // ---- texts

  private static void feed() {
    at(25, "Twelve bytes come to THE TAPE, the highest of each number first: how many it has.");
    LittlePot x = fresh();
    for (int i = 1; i <= 8; i++) due(x, 12 * i, "feed", 0x20202020, 0x20202020, 0x20202020);
    due(x, -196, "text");
    due(x, 12, "feed", 0x66656520, 0x39393939, 0x2d313938);
    due(x, 0, "text");
    due(x, 9999 - 198, "fee");
    // A byte above 127 stands by itself, too, and spoils none of the others.
    due(x, 12, "feed", 0x66656520, 0x313233ff, 0x20202020);
    due(x, -107, "text");
    due(x, 12, "feed", 0x80656520, 0x31323334, 0x20202020);
    due(x, -100, "text");
    x.feed(LOW, HIGH, -1);
    x.trim(1);
    due(x, 13, "feed", 0, 0, 0);
    at(25, "FULL: it would have more than 96.");
    LittlePot y = fresh();
    for (int i = 0; i < 8; i++) y.feed(0, 0, 0);
    for (int n = 96; n >= 85; n--) {
      due(y, n, "trim", n);
      due(y, FULL, "feed", 0, 0, 0);
      due(y, n, "count", 8);
    }
    due(y, 84, "trim", 84);
    due(y, 96, "feed", 0, 0, 0);
    leaves(PromiseEdgesTest::fullTape, FULL, "feed", 0x20202020, 0x20202020, 0x20202020);
  }

  /** 85 bytes: one too many for twelve more. */
  private static LittlePot fullTape() {
    LittlePot x = rich();
    tape(x, "fee " + times("a+", 40) + "p");
    return x;
  }

  private static void trim() {
    at(26, "THE TAPE keeps its first n bytes: n.");
    LittlePot x = fresh();
    due(x, 0, "trim", 0);
    tape(x, "fee 1234" + times(" ", 88));
    due(x, 96, "trim", 96);
    due(x, 8, "trim", 8);
    due(x, 8, "count", 8);
    due(x, 6, "trim", 6);
    due(x, 0, "text");
    due(x, 12, "fee");
    tape(x, "fee 1+");
    x.feed(0x39202020, 0x20202020, 0x20202020);
    due(x, 18, "count", 8);
    due(x, 1, "text");
    due(x, 10, "fee");
    at(26, "BAD.");
    for (int n : new int[] {-1, 6, 96, 97, LOW, HIGH}) leaves(BAD, "trim", n);
    leaves(5, "trim", 5);
    for (int n : new int[] {-1, 1, 96}) leaves(Edges::fresh, BAD, "trim", n);
    LittlePot y = fresh();
    for (int i = 0; i < 8; i++) y.feed(0, 0, 0);
    due(y, BAD, "trim", 97);
    due(y, BAD, "trim", -1);
    due(y, 96, "count", 8);
  }

  private static void text() {
    at(27, "THE TAPE is a TEXT: its number.");
    LittlePot x = fresh();
    for (int i = 0; i < 14; i++) {
      tape(x, "fee " + i);
      due(x, i, "text");
      due(x, 0, "count", 8);
      due(x, i + 1, "count", 6);
      due(x, i, "why", 1);
    }
    at(27, "-100 less the place of its FAULT; FULL.");
    due(x, -100, "text");
    tape(x, "fee 1");
    due(x, FULL, "text");
    due(x, 0, "count", 8);
    due(x, 14, "count", 6);
    due(x, 13, "fee");
    tape(x, "fee 1)");
    due(x, -105, "text");
    due(x, 0, "count", 8);
    tape(x, times(" ", 96));
    due(x, -196, "text");
    tape(x, times(" ", 95) + "x");
    due(x, -195, "text");
    due(x, 14, "count", 6);
    leaves(PromiseEdgesTest::noTape, -100, "text");
    leaves(Edges::fresh, -100, "text");
  }

  private static LittlePot noTape() {
    LittlePot x = rich();
    x.trim(0);
    return x;
  }

  private static void textTold() {
    at(28, "Of a TEXT: what 0 KEY (0 boil, 1 fee, 2 fine), 1 how many NUMBERS and NAMES it has.");
    LittlePot x = fresh();
    String[] rows = {"boil 9999", "fee !(a)", "fine " + times("c+", 45) + "a"};
    int[] has = {1, 1, 46};
    for (int i = 0; i < 3; i++) {
      text(x, rows[i]);
      due(x, i, "textTold", i, 0);
      due(x, has[i], "textTold", i, 1);
    }
    for (int i = 3; i < 14; i++) text(x, "fine 1");
    due(x, 2, "textTold", 13, 0);
    due(x, 1, "textTold", 13, 1);
    leaves(3, "textTold", 1, 1);
    at(28, "BAD.");
    for (int text : new int[] {-1, 3, 14, LOW, HIGH}) leaves(BAD, "textTold", text, 0);
    for (int what : new int[] {-1, 2, LOW, HIGH}) leaves(BAD, "textTold", 0, what);
    due(x, BAD, "textTold", 14, 0);
    due(fresh(), BAD, "textTold", 0, 0);
  }

  private static void why() {
    at(29, "The TEXT that counts for a KEY.");
    LittlePot x = fresh();
    text(x, "boil 1");
    text(x, "fee 1");
    for (int i = 2; i < 14; i++) text(x, "fine 1");
    due(x, 0, "why", 0);
    due(x, 1, "why", 1);
    due(x, 13, "why", 2);
    leaves(1, "why", 2);
    at(29, "BAD; NONE.");
    for (int key : new int[] {-1, 3, LOW, HIGH}) {
      leaves(BAD, "why", key);
      leaves(Edges::fresh, BAD, "why", key);
    }
    for (int key = 0; key < 3; key++) leaves(Edges::fresh, NONE, "why", key);
  }

  // ---- sheets, slots

  private static void sheet() {
    at(30, "A SHEET becomes a row of n places of a sort, all 0 (sort -1: MISSING, n any): n (0).");
    for (int s : new int[] {0, 3}) {
      for (int sort = 0; sort < 2; sort++) {
        LittlePot x = fresh();
        due(x, 24, "sheet", s, sort, 24);
        x.mark(s, 0, 9);
        due(x, 1, "mark", s, 23, 9);
        due(x, INDEX, "mark", s, 24, 9);
        due(x, sort == 0 ? KIND : 1, "mark", s, 0, NONE);
        due(x, 24, "sheet", s, 1 - sort, 24);
        x.lay(4, 2, s);
        for (int k = 0; k < 24; k++) due(x, 0, "item", 4, k);
        due(x, sort == 0 ? 1 : KIND, "mark", s, 0, NONE);
        due(x, 0, "sheet", s, sort, 0);
        due(x, INDEX, "mark", s, 0, 9);
        due(x, 1, "sheet", s, sort, 1);
        due(x, 1, "mark", s, 0, 9);
        due(x, INDEX, "mark", s, 1, 9);
        // A place that was cut off, and comes again, is 0.
        due(x, 24, "sheet", s, sort, 24);
        x.lay(4, 2, s);
        due(x, 0, "item", 4, 0);
      }
      for (int n : new int[] {0, 9, 24, 25, -1, LOW, HIGH}) {
        LittlePot x = fresh();
        x.sheet(s, 0, 3);
        due(x, 0, "sheet", s, -1, n);
        due(x, NOTHING, "mark", s, 0, 0);
        due(x, 0, "sheet", s, -1, n);
      }
    }
    at(30, "BAD: sheet, sort, n above 24; SIZE.");
    for (int s : new int[] {-1, 4, LOW, HIGH}) {
      leaves(BAD, "sheet", s, 0, 1);
      leaves(BAD, "sheet", s, -1, 0);
      leaves(BAD, "sheet", s, 0, -1);
    }
    for (int sort : new int[] {-2, 2, LOW, HIGH}) {
      leaves(BAD, "sheet", 0, sort, 1);
      leaves(BAD, "sheet", 0, sort, -1);
    }
    for (int sort = 0; sort < 2; sort++) {
      for (int n : new int[] {25, HIGH}) leaves(BAD, "sheet", 0, sort, n);
      for (int n : new int[] {-1, LOW}) {
        leaves(SIZE, "sheet", 0, sort, n);
        leaves(SIZE, "sheet", 3, sort, n);
      }
    }
  }

  /** Marks place 0 of a row of that sort, which must then be told as that. */
  private static void marks(int sort, int v, int want) {
    LittlePot x = fresh();
    x.sheet(0, sort, 1);
    due(x, 1, "mark", 0, 0, v);
    x.lay(0, 2, 0);
    due(x, want, "item", 0, 0);
  }

  private static void mark() {
    at(31, "A place of a SHEET becomes v (of shorts its lowest 16 bits; of floats v, -99999 .. 99999; NONE: NO NUMBER): 1.");
    int[][] shorts = {{32767, 32767}, {32768, -32768}, {-32768, -32768}, {-32769, 32767}, {65535, -1}, {65536, 0},
      {HIGH, -1}, {LOW, 0}, {-65536, 0}, {99999, 99999 - 131072}, {BAD, (short) BAD}, {0, 0}};
    for (int[] s : shorts) marks(0, s[0], s[1]);
    for (int v : new int[] {99999, -99999, 0, 32768}) marks(1, v, v);
    marks(1, NONE, KIND);
    LittlePot x = fresh();
    for (int s : new int[] {0, 3}) {
      x.sheet(s, 1, 24);
      for (int place : new int[] {0, 23}) {
        due(x, 1, "mark", s, place, NONE);
        x.lay(0, 2, s);
        due(x, KIND, "item", 0, place);
        due(x, 1, "mark", s, place, 5);
        x.lay(0, 2, s);
        due(x, 5, "item", 0, place);
      }
      due(x, 0, "item", 0, 1);
      due(x, 0, "item", 0, 22);
    }
    at(31, "BAD: sheet; NOTHING; INDEX; KIND: NONE in a row of shorts; BAD: v of floats.");
    for (int s : new int[] {-1, 4, LOW, HIGH}) {
      leaves(BAD, "mark", s, 0, 0);
      leaves(BAD, "mark", s, -1, NONE);
    }
    leaves(NOTHING, "mark", 3, 0, 0);
    leaves(NOTHING, "mark", 3, -1, NONE);
    leaves(NOTHING, "mark", 3, 0, HIGH);
    for (int place : new int[] {-1, 3, 24, LOW, HIGH}) {
      leaves(INDEX, "mark", 0, place, 0);
      leaves(INDEX, "mark", 0, place, NONE);
    }
    for (int place : new int[] {-1, 2, LOW, HIGH}) {
      leaves(INDEX, "mark", 1, place, 0);
      leaves(INDEX, "mark", 1, place, HIGH);
    }
    leaves(INDEX, "mark", 2, 0, 0);
    for (int place = 0; place < 3; place++) leaves(KIND, "mark", 0, place, NONE);
    for (int v : new int[] {100000, -100000, LOW, HIGH, BAD, NO, NONE + 1, NONE - 1}) leaves(BAD, "mark", 1, 0, v);
  }

  private static void pour() {
    at(32, "HEIGHTS of CELLS, by numbers, become the places of a SHEET from 0 on (each held within 0 .. 20; NO NUMBER, and beyond the SHEET: they stay): how many are otherwise then.");
    LittlePot x = fresh();
    for (int c = 0; c < 36; c++) x.lays(c, 0, 4);
    x.sheet(3, 1, 24);
    int[] places = {0, 20, 21, 99999, -1, -99999, NONE, 4, 19, 1};
    int[] heights = {0, 20, 20, 20, 0, 0, 4, 4, 19, 1};
    for (int k = 0; k < 24; k++) x.mark(3, k, k < places.length ? places[k] : NONE);
    due(x, 8, "pour", 3);
    for (int c = 0; c < 36; c++) due(x, c < heights.length ? heights[c] : 4, "cell", c, 0);
    due(x, 0, "pour", 3);
    x.mark(3, 23, 5);
    due(x, 1, "pour", 3);
    due(x, 5, "cell", 23, 0);
    due(x, 4, "cell", 24, 0);
    x.sheet(0, 0, 2);
    x.mark(0, 0, 32767);
    x.mark(0, 1, 32768);
    due(x, 2, "pour", 0);
    due(x, 20, "cell", 0, 0);
    due(x, 0, "cell", 1, 0);
    due(x, 20, "cell", 2, 0);
    leaves(0, "pour", 2);
    at(32, "BAD; NOTHING.");
    for (int s : new int[] {-1, 4, LOW, HIGH}) leaves(BAD, "pour", s);
    leaves(NOTHING, "pour", 3);
  }

  private static void reads() {
    at(33, "The first place (of numbers alone) at which a SHEET is not PORRIDGE of the CELL with that number.");
    LittlePot x = fresh();
    x.sheet(3, 1, 24);
    x.lays(24, 2, 7);
    due(x, NONE, "reads", 3);
    x.lays(23, 2, 7);
    due(x, 23, "reads", 3);
    x.lays(0, 2, 1);
    due(x, 0, "reads", 3);
    x.mark(3, 0, NONE);
    due(x, 23, "reads", 3);
    x.mark(3, 23, 6);
    due(x, 23, "reads", 3);
    x.mark(3, 23, 7);
    due(x, NONE, "reads", 3);
    x.mark(3, 0, 1);
    due(x, NONE, "reads", 3);
    x.mark(3, 1, -1);
    due(x, 1, "reads", 3);
    at(33, "BAD; NOTHING; NONE: there is none.");
    for (int s : new int[] {-1, 4, LOW, HIGH}) leaves(BAD, "reads", s);
    leaves(NOTHING, "reads", 3);
    leaves(NONE, "reads", 2);
    LittlePot y = fresh();
    y.sheet(0, 1, 24);
    for (int k = 0; k < 24; k++) y.mark(0, k, NONE);
    for (int c = 0; c < 36; c++) y.lays(c, 2, 5);
    due(y, NONE, "reads", 0);
  }

  /** Sheets 0 (places 1 .. 24) and 3 (all 0), of shorts. */
  private static LittlePot rows() {
    LittlePot x = fresh();
    x.sheet(0, 0, 24);
    for (int k = 0; k < 24; k++) x.mark(0, k, k + 1);
    x.sheet(3, 0, 24);
    return x;
  }

  private static void copy() {
    at(34, "So many places of a SHEET come to another one (or the same), as they were: many.");
    int[][] taken = {{0, 0, 24}, {0, 0, 0}, {24, 24, 0}, {23, 0, 1}, {0, 23, 1}, {23, 23, 1}, {0, 24, 0}, {24, 0, 0}, {12, 0, 12}, {0, 12, 12}};
    for (int[] t : taken) {
      LittlePot x = rows();
      due(x, t[2], "copy", 0, t[0], 3, t[1], t[2]);
      x.lay(0, 2, 3);
      for (int k = 0; k < 24; k++) due(x, k < t[1] || k >= t[1] + t[2] ? 0 : t[0] + k - t[1] + 1, "item", 0, k);
      LittlePot y = rows();
      due(y, t[2], "copy", 0, t[0], 0, t[1], t[2]);
      y.lay(0, 2, 0);
      for (int k = 0; k < 24; k++) due(y, k < t[1] || k >= t[1] + t[2] ? k + 1 : t[0] + k - t[1] + 1, "item", 0, k);
    }
    int[][] over = {{0, 1, 23}, {1, 0, 23}, {3, 5, 10}, {5, 3, 10}};
    for (int[] t : over) {
      LittlePot x = rows();
      due(x, t[2], "copy", 0, t[0], 0, t[1], t[2]);
      x.lay(0, 2, 0);
      for (int k = 0; k < 24; k++) due(x, k < t[1] || k >= t[1] + t[2] ? k + 1 : t[0] + k - t[1] + 1, "item", 0, k);
    }
    leaves(0, "copy", 2, 0, 1, 2, 0);
    leaves(0, "copy", 2, 0, 2, 0, 0);
    leaves(1, "copy", 1, 1, 1, 1, 1);
    at(34, "BAD; NOTHING; KIND: they are not of one sort; INDEX. (From a SHEET, its place, to a SHEET, its place.)");
    for (int s : new int[] {-1, 4, LOW, HIGH}) {
      leaves(BAD, "copy", s, 0, 0, 0, 0);
      leaves(BAD, "copy", 0, 0, s, 0, 0);
      leaves(BAD, "copy", s, -1, 3, 0, 0);
      leaves(BAD, "copy", 3, 0, s, -1, -1);
    }
    leaves(NOTHING, "copy", 3, 0, 0, 0, 0);
    leaves(NOTHING, "copy", 0, 0, 3, 0, 0);
    leaves(NOTHING, "copy", 3, 0, 3, 0, 0);
    leaves(NOTHING, "copy", 3, -1, 1, 9, 99);
    leaves(NOTHING, "copy", 1, 9, 3, -1, 99);
    leaves(KIND, "copy", 0, 0, 1, 0, 0);
    leaves(KIND, "copy", 1, 0, 0, 0, 1);
    leaves(KIND, "copy", 0, -1, 2, 0, 1);
    leaves(KIND, "copy", 0, 0, 1, 0, -1);
    int[][] off = {{-1, 0, 1}, {0, -1, 1}, {-1, 0, 0}, {0, -1, 0}, {4, 0, 0}, {0, 4, 0}, {3, 0, 1}, {0, 3, 1},
      {2, 0, 2}, {0, 2, 2}, {0, 0, 4}, {0, 0, -1}, {1, 1, -1}, {LOW, 0, 1}, {0, LOW, 1}, {0, 0, LOW}, {HIGH, 0, 1},
      {0, HIGH, 1}, {0, 0, HIGH}, {HIGH, HIGH, HIGH}, {LOW, LOW, LOW}, {1, 0, HIGH}, {3, 3, LOW}};
    for (int[] o : off) leaves(INDEX, "copy", 0, o[0], 0, o[1], o[2]);
    leaves(INDEX, "copy", 1, 0, 2, 0, 1);
    leaves(INDEX, "copy", 2, 0, 1, 0, 1);
  }

  private static void lay() {
    at(35, "A SLOT holds: thing 0 nothing, 1 EATER k, 2 SHEET k, 3 the number k: what it held (0 .. 3).");
    for (int slot : new int[] {0, 4}) {
      LittlePot x = rich();
      for (int i = 5; i < 8; i++) x.eater(1, 0);
      x.sheet(3, 0, 1);
      x.lay(slot, 0, 0);
      due(x, 0, "lay", slot, 0, 0);
      due(x, NOTHING, "rest", slot, 1);
      int[] things = {1, 2, 3, 3, 2, 1, 1, 0};
      int[] ks = {0, 0, LOW, HIGH, 3, 7, 0, 0};
      int held = 0;
      for (int i = 0; i < things.length; i++) {
        due(x, held, "lay", slot, things[i], ks[i]);
        held = things[i];
      }
      for (int k : new int[] {-1, 99, LOW, HIGH}) due(x, 0, "lay", slot, 0, k);
    }
    at(35, "BAD: slot, thing, k; NOTHING: that SHEET is MISSING.");
    for (int slot : new int[] {-1, 5, LOW, HIGH}) for (int thing = 0; thing < 4; thing++) leaves(BAD, "lay", slot, thing, 0);
    for (int thing : new int[] {-1, 4, LOW, HIGH}) leaves(BAD, "lay", 1, thing, 0);
    for (int eater : new int[] {-1, 5, LOW, HIGH}) leaves(BAD, "lay", 2, 1, eater);
    for (int s : new int[] {-1, 4, LOW, HIGH}) leaves(BAD, "lay", 3, 2, s);
    for (int slot = 0; slot < 5; slot++) leaves(NOTHING, "lay", slot, 2, 3);
    leaves(BAD, "lay", 5, 2, 3);
  }

  private static void ask() {
    at(36, "WORTH of the EATER in a SLOT, taken for one of a KIND (0 .. 5).");
    for (int slot : new int[] {0, 4}) {
      LittlePot x = fresh();
      for (int k = 0; k < 6; k++) x.eater(k, 0);
      int[] worth = {0, 8, 999, 16, 992, 5};
      for (int k = 0; k < 6; k++) {
        x.lay(slot, 1, k);
        due(x, worth[k], "ask", slot, k);
        due(x, worth[k], "ask", slot, 0);
      }
    }
    leaves(rich().told(1, 5), "ask", 1, 2);
    at(36, "BAD; NOTHING; KIND: it is no EATER, or not of that KIND, nor of one under it.");
    for (int slot : new int[] {-1, 5, LOW, HIGH}) leaves(BAD, "ask", slot, 0);
    for (int kind : new int[] {-1, 6, LOW, HIGH}) {
      // A kind that is none is BAD, whatever the slot holds.
      for (int slot = 0; slot < 5; slot++) leaves(BAD, "ask", slot, kind);
    }
    for (int kind = 0; kind < 6; kind++) {
      leaves(NOTHING, "ask", 0, kind);
      for (int slot = 2; slot < 5; slot++) leaves(KIND, "ask", slot, kind);
      // The eater there is a child.
      if (kind != 0 && kind != 2) leaves(KIND, "ask", 1, kind);
    }
  }

  private static void item() {
    at(37, "A place of the SHEET in a SLOT.");
    for (int slot : new int[] {0, 4}) {
      LittlePot x = rows();
      x.lay(slot, 2, 0);
      due(x, 1, "item", slot, 0);
      due(x, 24, "item", slot, 23);
      due(x, INDEX, "item", slot, 24);
    }
    leaves(-5, "item", 2, 0);
    leaves(13, "item", 4, 2);
    at(37, "BAD: slot; NOTHING; KIND: it is no SHEET; INDEX; KIND: NO NUMBER.");
    for (int slot : new int[] {-1, 5, LOW, HIGH}) {
      leaves(BAD, "item", slot, 0);
      leaves(BAD, "item", slot, -1);
    }
    for (int place : new int[] {0, -1, 24, LOW, HIGH}) {
      leaves(NOTHING, "item", 0, place);
      leaves(KIND, "item", 1, place);
      leaves(KIND, "item", 3, place);
    }
    for (int place : new int[] {-1, 2, 24, LOW, HIGH}) leaves(INDEX, "item", 2, place);
    for (int place : new int[] {-1, 3, 24, LOW, HIGH}) leaves(INDEX, "item", 4, place);
    leaves(KIND, "item", 2, 1);
    LittlePot x = rich();
    x.lay(0, 2, 2);
    due(x, INDEX, "item", 0, 0);
  }

  /** The number in a slot leaves this rest. */
  private static void rests(int number, int n, int want) {
    LittlePot x = fresh();
    x.lay(4, 3, number);
    due(x, want, "rest", 4, n);
  }

  private static void rest() {
    at(38, "The rest of the number in a SLOT by n.");
    int[][] rows = {{17, 5, 2}, {-17, 5, -2}, {17, -5, 2}, {-17, -5, -2}, {5, 5, 0}, {4, 5, 4}, {0, 5, 0}, {7, 1, 0}, {7, -1, 0},
      {LOW, -1, 0}, {LOW, LOW, 0}, {LOW, HIGH, -1}, {HIGH, LOW, HIGH}, {HIGH, HIGH, 0}, {LOW, 10, -8}};
    for (int[] r : rows) rests(r[0], r[1], r[2]);
    leaves(2, "rest", 3, 5);
    at(38, "BAD: slot; NOTHING; KIND: it is no number; NO: n is 0.");
    for (int n : new int[] {0, 1}) {
      for (int slot : new int[] {-1, 5, LOW, HIGH}) leaves(BAD, "rest", slot, n);
      leaves(NOTHING, "rest", 0, n);
      for (int slot : new int[] {1, 2, 4}) leaves(KIND, "rest", slot, n);
    }
    leaves(NO, "rest", 3, 0);
  }

  // ---- rows, images

  private static void tell() {
    at(39, "One more number waits: how many.");
    LittlePot x = fresh();
    for (int i = 1; i <= 60; i++) {
      due(x, i, "tell", i == 1 ? LOW : i == 60 ? HIGH : -i);
      due(x, i, "count", 7);
    }
    at(39, "FULL: 60 wait.");
    due(x, FULL, "tell", 0);
    due(x, 60, "count", 7);
    due(x, NO, "check", 1);
    due(x, 1, "tell", 0);
    leaves(PromiseEdgesTest::sixty, FULL, "tell", 0);
  }

  private static LittlePot sixty() {
    LittlePot x = rich();
    for (int i = 4; i < 60; i++) x.tell(i);
    return x;
  }

  /** An image of a pot that pours 20 a minute, where an eater eats 3; many right numbers wait. */
  private static LittlePot waiting(int many) {
    LittlePot x = fresh();
    x.eater(0, 0);
    x.cook(0);
    x.keep();
    for (int i = 0; i < many; i++) x.tell(i % 2 == 0 ? 17 * (1 + i / 2) : 3 * (1 + i / 2));
    return x;
  }

  private static void check() {
    at(40, "The numbers that wait (none do then, whatever is answered) are THE MINUTES TOLD of n (1 .. 30; fewer, if THE MINUTE would be above 9999), two by two: 0;");
    for (int n : new int[] {1, 2, 29, 30}) {
      LittlePot x = waiting(2 * n);
      due(x, 0, "check", n);
      due(x, 0, "count", 7);
    }
    for (int left = 0; left <= 3; left++) {
      LittlePot x = fresh();
      for (int i = 0; i < 166; i++) x.minutes(60);
      if (left < 39) x.minutes(39 - left);
      x.eater(0, 0);
      x.cook(0);
      due(x, 1, "keep");
      for (int i = 1; i <= left; i++) {
        x.tell(17 * i);
        x.tell(3 * i);
      }
      due(x, 0, "check", left == 0 ? 1 : 30);
      for (int i = 1; i <= left + 1; i++) {
        x.tell(17 * i);
        x.tell(3 * i);
      }
      due(x, 2 * left + 1, "check", 30);
      due(x, 2 * left == 0 ? 0 : 1, "check", 30);
      due(x, 9999 - left, "count", 1);
    }
    boundByTheImage();
    at(40, "else 1 and how many stand right ahead of the first that is not (or is missing, or one too many).");
    for (int wait = 0; wait <= 60; wait++) {
      for (int n : new int[] {1, 15, 30}) {
        if (wait == 2 * n) continue;
        LittlePot x = waiting(wait);
        due(x, 1 + Math.min(wait, 2 * n), "check", n);
        due(x, 0, "count", 7);
      }
    }
    for (int off = 0; off < 60; off++) {
      LittlePot x = waiting(off);
      x.tell(1);
      LittlePot right = waiting(60);
      for (int i = off + 1; i < 60; i++) x.tell(i % 2 == 0 ? 17 * (1 + i / 2) : 3 * (1 + i / 2));
      due(x, 1 + off, "check", 30);
      due(right, 0, "check", 30);
    }
    at(40, "BAD; NO: there is no IMAGE.");
    for (int n : new int[] {0, -1, 31, LOW, HIGH}) {
      LittlePot x = waiting(2);
      due(x, BAD, "check", n);
      due(x, 0, "count", 7);
      LittlePot y = fresh();
      y.tell(1);
      due(y, BAD, "check", n);
      due(y, 0, "count", 7);
      leaves(PromiseEdgesTest::noneWait, BAD, "check", n);
    }
    for (int n : new int[] {1, 30}) {
      LittlePot x = fresh();
      x.tell(0);
      due(x, NO, "check", n);
      due(x, 0, "count", 7);
      leaves(PromiseEdgesTest::noneWait, 1, "check", n);
    }
  }

  /** It is THE MINUTE of the image that bounds them, not the one that is now. */
  private static void boundByTheImage() {
    LittlePot early = waiting(60);
    late(early);
    due(early, 0, "check", 30);
    LittlePot x = fresh();
    for (int i = 0; i < 166; i++) x.minutes(60);
    x.minutes(38);
    x.cook(0);
    x.keep();
    x.minutes(1);
    due(x, 9999, "count", 1);
    x.tell(20);
    x.tell(0);
    due(x, 0, "check", 30);
  }

  private static LittlePot noneWait() {
    LittlePot x = rich();
    x.check(1);
    return x;
  }

  private static void keep() {
    at(41, "AN IMAGE is kept: how many EATERS.");
    due(fresh(), 0, "keep");
    LittlePot x = fresh();
    for (int i = 1; i <= 8; i++) {
      x.eater(0, i);
      due(x, i, "keep");
    }
    due(x, 8, "keep");
    due(x, 8, "count", 0);
  }

  private static void back() {
    at(42, "All is as THE IMAGE: how many EATERS.");
    LittlePot x = fresh();
    due(x, 0, "keep");
    due(x, 8, "deal", 8);
    due(x, 0, "back");
    due(x, 0, "count", 0);
    due(x, 1, "count", 9);
    x.deal(8);
    x.keep();
    due(x, 8, "back");
    due(x, 8, "back");
    at(42, "NO: there is none.");
    leaves(Edges::fresh, NO, "back");
    LittlePot y = fresh();
    y.eater(0, 0);
    y.minutes(5);
    due(y, NO, "back");
    due(y, 1, "count", 0);
    due(y, 5, "count", 1);
  }

  private static void count() {
    at(43, "0 how many EATERS, 1 THE MINUTE, 2 .. 5 THE WORD, BOIL, THICK, MICE, 6 TEXTS, 7 numbers that wait, 8 bytes of THE TAPE, 9 z.");
    LittlePot x = fresh();
    int[] first = {0, 0, 7, 20, 0, 0, 0, 0, 0, 1};
    for (int i = 0; i < 10; i++) due(x, first[i], "count", i);
    late(x);
    x.deal(8);
    int[] most = {9, 99, 8, 100};
    for (int i = 0; i < 4; i++) x.rule(i, most[i]);
    for (int i = 0; i < 14; i++) text(x, "fee 1");
    for (int i = 0; i < 60; i++) x.tell(0);
    for (int i = 0; i < 8; i++) x.feed(0, 0, 0);
    x.seed(LOW);
    int[] full = {8, 9999, 9, 99, 8, 100, 14, 60, 96, LOW};
    for (int i = 0; i < 10; i++) due(x, full[i], "count", i);
    at(43, "BAD.");
    for (int what : new int[] {-1, 10, LOW, HIGH}) leaves(BAD, "count", what);
  }
}
