import java.util.ArrayDeque;
import java.util.ArrayList;
import java.util.Arrays;
import java.util.Deque;
import java.util.List;
import java.util.Map;

/**
 * The document a second time, written in another way and without care for speed or room,
 * so that a slip in the class and a slip here are not the same one.
 */
public final class Model {
  static final int BAD = -1000000001, NO = -1000000002, FULL = -1000000003, NONE = -1000000005,
      NOTHING = -1000000011, KIND = -1000000012, INDEX = -1000000013, SIZE = -1000000014;

  /** Kinds as classes under one another. */
  static class Eater implements Cloneable {
    int cell;
    int ate;
    int eats(int parts) { return 3; }
    int wades() { return 99; }
    int worth() { return ate; }
    Eater twin() {
      try {
        return (Eater) clone();
      } catch (CloneNotSupportedException e) {
        throw new IllegalStateException(e);
      }
    }
  }
  static class Glutton extends Eater {
    @Override int eats(int parts) { return 8; }
    @Override int worth() { return super.worth() + 8; }
  }
  static class Giant extends Glutton {
    @Override int eats(int parts) { return 2 * super.eats(parts); }
    @Override int wades() { return super.wades() + 900; }
    @Override int worth() { return 2 * super.worth(); }
  }
  static class Child extends Eater {
    @Override int eats(int parts) { return 1; }
    @Override int wades() { return 30; }
    @Override int worth() { return 999 - ate; }
  }
  static class Baby extends Child {
    @Override int eats(int parts) { return parts > 50 ? 0 : super.eats(parts); }
    @Override int wades() { return super.wades() / 2; }
    @Override int worth() { return super.worth() - 7; }
  }
  static class Dog extends Eater {
    @Override int eats(int parts) { return super.eats(parts) + 1; }
    @Override int wades() { return 60; }
    @Override int worth() { return 5; }
  }

  static final List<Class<? extends Eater>> KINDS =
      List.of(Eater.class, Glutton.class, Child.class, Giant.class, Baby.class, Dog.class);

  static Eater newEater(int kind) {
    switch (kind) {
      case 0: return new Eater();
      case 1: return new Glutton();
      case 2: return new Child();
      case 3: return new Giant();
      case 4: return new Baby();
      default: return new Dog();
    }
  }

  /** A text as its key and the words and signs behind it. */
  record Law(String key, List<String> tokens) {
    int leaves() {
      int n = 0;
      for (String t : tokens) if (Character.isLetterOrDigit(t.charAt(0))) n++;
      return n;
    }

    static int rank(String sign) {
      switch (sign) {
        case "|": return 1;
        case "&": return 2;
        case "<": case "=": case ">": return 3;
        case "+": case "-": return 4;
        case "*": case "/": return 5;
        case "!": return 6;
        default: return 0;
      }
    }

    int worked(Map<String, Integer> names) {
      Deque<Integer> values = new ArrayDeque<>();
      Deque<String> signs = new ArrayDeque<>();
      for (String t : tokens) {
        if (names.containsKey(t)) values.push(names.get(t));
        else if (Character.isDigit(t.charAt(0))) values.push(Integer.parseInt(t));
        else if (t.equals("(") || t.equals("!")) signs.push(t);
        else if (t.equals(")")) {
          while (!signs.peek().equals("(")) join(signs.pop(), values);
          signs.pop();
        } else {
          while (!signs.isEmpty() && rank(signs.peek()) >= rank(t)) join(signs.pop(), values);
          signs.push(t);
        }
      }
      while (!signs.isEmpty()) join(signs.pop(), values);
      return values.pop();
    }

    private static void join(String sign, Deque<Integer> values) {
      int b = values.pop();
      if (sign.equals("!")) {
        values.push(b == 0 ? 1 : 0);
        return;
      }
      int a = values.pop();
      switch (sign) {
        case "|": values.push((a != 0) | (b != 0) ? 1 : 0); break;
        case "&": values.push((a != 0) & (b != 0) ? 1 : 0); break;
        case "<": values.push(a < b ? 1 : 0); break;
        case "=": values.push(a == b ? 1 : 0); break;
        case ">": values.push(a > b ? 1 : 0); break;
        case "+": values.push((int) ((long) a + b)); break;
        case "-": values.push((int) ((long) a - b)); break;
        case "*": values.push((int) ((long) a * b)); break;
        default: values.push(b == 0 ? 0 : (int) ((long) a / b));
      }
    }
  }

  static final class State {
    int[][] cells = new int[36][3];
    List<Eater> eaters = new ArrayList<>();
    List<Law> laws = new ArrayList<>();
    int[] rules = {7, 20, 0, 0};
    int pot, minute, z = 1;
    boolean cooks;

    State twin() {
      State s = new State();
      for (int c = 0; c < 36; c++) s.cells[c] = cells[c].clone();
      for (Eater e : eaters) s.eaters.add(e.twin());
      s.laws.addAll(laws);
      s.rules = rules.clone();
      s.pot = pot;
      s.minute = minute;
      s.z = z;
      s.cooks = cooks;
      return s;
    }

    int level(int c) { return 10 * (cells[c][0] + cells[c][1]) + cells[c][2]; }

    int porridge() {
      int all = 0;
      for (int[] c : cells) all += c[2];
      return all;
    }

    int ate() {
      int all = 0;
      for (Eater e : eaters) all += e.ate;
      return all;
    }

    int lawOf(String key) {
      int found = -1;
      for (int i = 0; i < laws.size(); i++) if (laws.get(i).key.equals(key)) found = i;
      return found;
    }

    int given(String key, int without, Map<String, Integer> names) {
      int i = lawOf(key);
      return i < 0 ? without : laws.get(i).worked(names);
    }

    int pours() {
      int v = given("boil", rules[1], Map.of("b", rules[1], "t", minute, "p", cells[pot][2]));
      return v < 0 ? 0 : v > 99 ? 99 : v;
    }

    int draw() {
      z = (int) (z * 1103515245L + 12345L);
      return (int) ((z & 0xffffffffL) / 256);
    }

    State after(int n) {
      State s = twin();
      for (int i = 0; i < n; i++) s.minute();
      return s;
    }

    void minute() {
      if (cooks) cells[pot][2] += pours();
      for (int c = 0; c < 36; c++) {
        int low = -1;
        for (int o : near(c)) if (low < 0 || level(o) < level(low)) low = o;
        int above = level(c) - level(low);
        if (above > 1) {
          int goes = above / 2 / (1 + rules[2]);
          if (goes > cells[c][2]) goes = cells[c][2];
          cells[c][2] -= goes;
          cells[low][2] += goes;
        }
      }
      for (Eater e : eaters) {
        int[] here = cells[e.cell];
        int eaten = e.eats(here[2]);
        if (eaten > here[2]) eaten = here[2];
        here[2] -= eaten;
        e.ate += eaten;
        if (here[2] != 0) continue;
        int to = -1;
        for (int o : near(e.cell)) {
          int there = cells[o][2];
          if (there < 1 || there > e.wades()) continue;
          if (to < 0 || there > cells[to][2]) to = o;
        }
        if (to >= 0) e.cell = to;
      }
      if (draw() % 100 < rules[3]) {
        int[] nibbled = cells[draw() % 36];
        if (nibbled[1] > 0) nibbled[1]--;
      }
      minute++;
    }
  }

  static List<Integer> near(int c) {
    List<Integer> found = new ArrayList<>();
    int[][] ways = {{0, 1}, {0, -1}, {1, 0}, {-1, 0}};
    for (int[] w : ways) {
      int row = c / 6 + w[0];
      int column = c % 6 + w[1];
      if (row >= 0 && row < 6 && column >= 0 && column < 6) found.add(row * 6 + column);
    }
    return found;
  }

  State s = new State();
  State image;
  String tape = "";
  List<Integer> waiting = new ArrayList<>();
  /** Null: MISSING. A row of Short, or of Float with null for NO NUMBER. */
  Object[][] sheets = new Object[4][];
  boolean[] floats = new boolean[4];
  Object[] slots = new Object[5];

  static boolean out(int v, int least, int most) { return v < least || v > most; }

  boolean noEater(int e) { return out(e, 0, s.eaters.size() - 1); }

  public int eater(int kind, int cell) {
    if (out(kind, 0, 5) || out(cell, 0, 35)) return BAD;
    if (s.eaters.size() == 8) return FULL;
    Eater e = newEater(kind);
    e.cell = cell;
    s.eaters.add(e);
    return s.eaters.size() - 1;
  }

  public int told(int eater, int what) {
    if (noEater(eater) || out(what, 0, 5)) return BAD;
    Eater e = s.eaters.get(eater);
    int[] all = {KINDS.indexOf(e.getClass()), e.cell, e.ate, e.eats(s.cells[e.cell][2]), e.wades(), e.worth()};
    return all[what];
  }

  public int cell(int cell, int what) {
    if (out(cell, 0, 35) || out(what, 0, 3)) return BAD;
    return what < 3 ? s.cells[cell][what] : s.level(cell);
  }

  public int lays(int cell, int what, int v) {
    if (out(cell, 0, 35) || out(what, 0, 2) || out(v, 0, what == 2 ? 999 : 20)) return BAD;
    int was = s.cells[cell][what];
    s.cells[cell][what] = v;
    return was;
  }

  public int as(int eater, int kind) {
    if (noEater(eater) || out(kind, 0, 5)) return BAD;
    return KINDS.get(kind).isInstance(s.eaters.get(eater)) ? s.eaters.get(eater).ate : KIND;
  }

  public int turns(int eater, int kind) {
    if (noEater(eater) || out(kind, 0, 5)) return BAD;
    Eater was = s.eaters.get(eater);
    Eater is = newEater(kind);
    is.cell = was.cell;
    is.ate = was.ate;
    s.eaters.set(eater, is);
    return KINDS.indexOf(was.getClass());
  }

  public int sends(int eater, int cell) {
    if (noEater(eater) || out(cell, 0, 35)) return BAD;
    int was = s.eaters.get(eater).cell;
    s.eaters.get(eater).cell = cell;
    return was;
  }

  public int cook(int cell) {
    if (out(cell, 0, 35)) return BAD;
    int was = s.pot;
    s.pot = cell;
    s.cooks = true;
    return was;
  }

  public int say(int word) {
    if (out(word, 0, 9)) return BAD;
    if (!s.cooks) return NO;
    int far = Math.floorMod(word - s.rules[0], 10);
    if (far == 0) s.cooks = false;
    if (far == 1 && s.rules[2] < 9) s.rules[2]++;
    if (far == 9) s.rules[1] = s.rules[1] > 94 ? 99 : s.rules[1] + 5;
    return far == 0 ? 0 : far == 1 ? 1 : far == 9 ? 2 : 3;
  }

  public int rule(int what, int v) {
    if (out(what, 0, 3) || out(v, 0, what == 1 ? 99 : what == 3 ? 100 : 9)) return BAD;
    int was = s.rules[what];
    s.rules[what] = v;
    return was;
  }

  public int deal(int n) {
    if (out(n, 1, 8)) return BAD;
    int came = 0;
    while (came < n && s.eaters.size() < 8) {
      int kind = s.draw() % 6;
      eater(kind, s.draw() % 36);
      came++;
    }
    return came;
  }

  public int seed(int v) {
    int was = s.z;
    s.z = v;
    return was;
  }

  public int minutes(int n) {
    if (out(n, 1, 60)) return BAD;
    int was = s.ate();
    for (int i = 0; i < n; i++) if (s.minute < 9999) s.minute();
    return s.ate() - was;
  }

  public int town(int what) {
    if (out(what, 0, 5)) return BAD;
    int wet = 0;
    for (int[] c : s.cells) if (c[2] != 0) wet++;
    int[] all = {s.porridge(), s.ate(), wet, s.pours(), s.pot, s.cooks ? 1 : 0};
    return all[what];
  }

  public int path(int from, int to, int parts) {
    if (out(from, 0, 35) || out(to, 0, 35) || out(parts, 0, 9999)) return BAD;
    long[] far = new long[36];
    Arrays.fill(far, 1000);
    far[from] = 0;
    for (int round = 0; round < 36; round++)
      for (int c = 0; c < 36; c++)
        for (int o : near(c))
          if (s.cells[o][2] <= parts) far[o] = Math.min(far[o], far[c] + 1);
    return far[to] >= 1000 ? NONE : (int) far[to];
  }

  public int behind(int n, int what) {
    if (out(n, 0, 60) || out(what, 0, 37)) return BAD;
    State t = s.after(n);
    return what == 0 ? t.porridge() : what == 1 ? t.ate() : t.cells[what - 2][2];
  }

  public int wets(int cell) {
    if (out(cell, 0, 35)) return BAD;
    State t = s.twin();
    for (int k = 0; k <= 200; k++) {
      if (t.cells[cell][2] > 0) return k;
      t.minute();
    }
    return NONE;
  }

  public int deepest(int n, int what) {
    if (out(n, 0, 60) || out(what, 0, 1)) return BAD;
    State t = s.after(n);
    int most = 0;
    for (int[] c : t.cells) most = Math.max(most, c[2]);
    for (int c = 0; c < 36; c++) if (t.cells[c][2] == most) return what == 0 ? c : most;
    return NONE;
  }

  public int walled(int cell, int n, int what) {
    if (out(cell, 0, 35) || out(n, 1, 20) || out(what, 0, 1)) return BAD;
    int[] left = new int[36];
    for (int c = 0; c < 36; c++) {
      State t = s.twin();
      t.cells[c][1] += 5;
      left[c] = t.after(n).cells[cell][2];
    }
    return leastOf(left, what);
  }

  private static int leastOf(int[] row, int what) {
    int least = Arrays.stream(row).min().getAsInt();
    if (what == 1) return least;
    int c = 0;
    while (row[c] != least) c++;
    return c;
  }

  public int enough(int cell, int n) {
    if (out(cell, 0, 35) || out(n, 0, 40)) return BAD;
    for (int k = n; k >= 0; k--) {
      State t = s.after(k);
      t.cooks = false;
      if (t.after(n - k).cells[cell][2] == 0) return k;
    }
    return NONE;
  }

  public int stood(int sheet, int n, int what) {
    if (out(sheet, 0, 3) || out(n, 0, 20) || out(what, 0, 1)) return BAD;
    if (sheets[sheet] == null) return NOTHING;
    int[] differ = new int[36];
    for (int c = 0; c < 36; c++) {
      State t = s.twin();
      t.pot = c;
      t.cooks = true;
      t = t.after(n);
      for (int k = 0; k < sheets[sheet].length; k++)
        if (sheets[sheet][k] != null)
          differ[c] += Math.abs(t.cells[k][2] - ((Number) sheets[sheet][k]).intValue());
    }
    return leastOf(differ, what);
  }

  public int fee() { return s.given("fee", s.ate(), Map.of("a", s.ate(), "p", s.porridge())); }

  public int fine(int eater) {
    if (noEater(eater)) return BAD;
    Eater e = s.eaters.get(eater);
    return s.given("fine", e.ate, Map.of("a", e.ate, "c", e.cell));
  }

  public int feed(int a, int b, int c) {
    if (tape.length() + 12 > 96) return FULL;
    for (int v : new int[] {a, b, c})
      tape += "" + (char) (v >>> 24) + (char) (v >>> 16 & 255) + (char) (v >>> 8 & 255) + (char) (v & 255);
    return tape.length();
  }

  public int trim(int n) {
    if (out(n, 0, tape.length())) return BAD;
    tape = tape.substring(0, n);
    return n;
  }

  /** The words and signs of a row of bytes; places[i] is where the i-th begins. */
  private static List<String> split(String row, List<Integer> places) {
    List<String> tokens = new ArrayList<>();
    int i = 0;
    while (i < row.length()) {
      int from = i;
      String set = setOf(row.charAt(i));
      i++;
      while (!set.isEmpty() && i < row.length() && set.indexOf(row.charAt(i)) >= 0) i++;
      if (row.charAt(from) != ' ') {
        tokens.add(row.substring(from, i));
        places.add(from);
      }
    }
    places.add(row.length());
    return tokens;
  }

  private static String setOf(char c) {
    for (String set : List.of("abcdefghijklmnopqrstuvwxyz", "0123456789")) if (set.indexOf(c) >= 0) return set;
    return "";
  }

  /** By what may come next, without a tree: the number of the first word or sign that may not, or -1. */
  private static int strayOf(List<String> tokens, List<Integer> places) {
    Map<String, String> names = Map.of("boil", "btp", "fee", "ap", "fine", "ac");
    if (tokens.isEmpty() || !names.containsKey(tokens.get(0))) return 0;
    String own = names.get(tokens.get(0));
    boolean wantsPiece = true;
    boolean compared = false;
    int pending = 0;
    int open = 0;
    Deque<int[]> parens = new ArrayDeque<>();
    for (int i = 1; i < tokens.size(); i++) {
      String t = tokens.get(i);
      boolean word = !setOf(t.charAt(0)).isEmpty();
      String last = tokens.get(i - 1);
      boolean glued = word && !setOf(last.charAt(0)).isEmpty() && places.get(i) == places.get(i - 1) + last.length();
      if (glued) return i;
      if (wantsPiece) {
        if (t.equals("!") && open + pending < 8) {
          pending++;
        } else if (t.equals("(") && parens.size() < 8) {
          parens.push(new int[] {pending, compared ? 1 : 0});
          open += pending;
          pending = 0;
          compared = false;
        } else if (word && (Character.isDigit(t.charAt(0)) ? t.length() <= 4 : t.length() == 1 && own.contains(t))) {
          wantsPiece = false;
          pending = 0;
        } else {
          return i;
        }
      } else if (t.equals(")") && !parens.isEmpty()) {
        int[] outer = parens.pop();
        open -= outer[0];
        compared = outer[1] == 1;
      } else if (t.equals("|") || t.equals("&")) {
        compared = false;
        wantsPiece = true;
      } else if ((t.equals("<") || t.equals("=") || t.equals(">")) && !compared) {
        compared = true;
        wantsPiece = true;
      } else if (t.equals("+") || t.equals("-") || t.equals("*") || t.equals("/")) {
        wantsPiece = true;
      } else {
        return i;
      }
    }
    return wantsPiece || !parens.isEmpty() ? tokens.size() : -1;
  }

  public int text() {
    List<Integer> places = new ArrayList<>();
    List<String> tokens = split(tape, places);
    tape = "";
    int stray = strayOf(tokens, places);
    if (stray >= 0) return -100 - places.get(stray);
    if (s.laws.size() == 14) return FULL;
    s.laws.add(new Law(tokens.get(0), tokens.subList(1, tokens.size())));
    return s.laws.size() - 1;
  }

  public int textTold(int text, int what) {
    if (out(text, 0, s.laws.size() - 1) || out(what, 0, 1)) return BAD;
    Law law = s.laws.get(text);
    return what == 0 ? List.of("boil", "fee", "fine").indexOf(law.key) : law.leaves();
  }

  public int why(int key) {
    if (out(key, 0, 2)) return BAD;
    int i = s.lawOf(List.of("boil", "fee", "fine").get(key));
    return i < 0 ? NONE : i;
  }

  public int sheet(int sheet, int sort, int n) {
    if (out(sheet, 0, 3) || out(sort, -1, 1)) return BAD;
    if (sort == -1) {
      sheets[sheet] = null;
      return 0;
    }
    if (n > 24) return BAD;
    if (n < 0) return SIZE;
    floats[sheet] = sort == 1;
    sheets[sheet] = new Object[n];
    Object zero = sort == 1 ? (Object) 0f : (Object) (short) 0;
    Arrays.fill(sheets[sheet], zero);
    return n;
  }

  public int mark(int sheet, int place, int v) {
    if (out(sheet, 0, 3)) return BAD;
    Object[] row = sheets[sheet];
    if (row == null) return NOTHING;
    if (out(place, 0, row.length - 1)) return INDEX;
    if (!floats[sheet] && v == NONE) return KIND;
    if (floats[sheet] && v != NONE && out(v, -99999, 99999)) return BAD;
    row[place] = !floats[sheet] ? (Object) (short) v : v == NONE ? null : (Object) (float) v;
    return 1;
  }

  public int pour(int sheet) {
    if (out(sheet, 0, 3)) return BAD;
    if (sheets[sheet] == null) return NOTHING;
    int other = 0;
    for (int k = 0; k < sheets[sheet].length; k++) {
      if (sheets[sheet][k] == null) continue;
      int v = Math.min(20, Math.max(0, ((Number) sheets[sheet][k]).intValue()));
      if (v != s.cells[k][0]) other++;
      s.cells[k][0] = v;
    }
    return other;
  }

  public int reads(int sheet) {
    if (out(sheet, 0, 3)) return BAD;
    if (sheets[sheet] == null) return NOTHING;
    for (int k = 0; k < sheets[sheet].length; k++)
      if (sheets[sheet][k] != null && ((Number) sheets[sheet][k]).intValue() != s.cells[k][2]) return k;
    return NONE;
  }

  public int copy(int from, int place, int to, int at, int many) {
    if (out(from, 0, 3) || out(to, 0, 3)) return BAD;
    if (sheets[from] == null || sheets[to] == null) return NOTHING;
    if (floats[from] != floats[to]) return KIND;
    if (many < 0 || place < 0 || at < 0) return INDEX;
    if ((long) place + many > sheets[from].length || (long) at + many > sheets[to].length) return INDEX;
    Object[] were = Arrays.copyOfRange(sheets[from], place, place + many);
    for (int k = 0; k < many; k++) sheets[to][at + k] = were[k];
    return many;
  }

  private static int thingOf(Object held) {
    return held == null ? 0 : held instanceof Eater ? 1 : held instanceof Object[] ? 2 : 3;
  }

  public int lay(int slot, int thing, int k) {
    if (out(slot, 0, 4) || out(thing, 0, 3)) return BAD;
    if (thing == 1 && noEater(k) || thing == 2 && out(k, 0, 3)) return BAD;
    if (thing == 2 && sheets[k] == null) return NOTHING;
    int was = thingOf(slots[slot]);
    slots[slot] = thing == 0 ? null : thing == 1 ? s.eaters.get(k).twin()
        : thing == 2 ? (Object) sheets[k].clone() : (Object) k;
    return was;
  }

  public int ask(int slot, int kind) {
    if (out(slot, 0, 4) || out(kind, 0, 5)) return BAD;
    if (slots[slot] == null) return NOTHING;
    return KINDS.get(kind).isInstance(slots[slot]) ? ((Eater) slots[slot]).worth() : KIND;
  }

  public int item(int slot, int place) {
    if (out(slot, 0, 4)) return BAD;
    if (slots[slot] == null) return NOTHING;
    if (thingOf(slots[slot]) != 2) return KIND;
    Object[] row = (Object[]) slots[slot];
    if (out(place, 0, row.length - 1)) return INDEX;
    return row[place] == null ? KIND : ((Number) row[place]).intValue();
  }

  public int rest(int slot, int n) {
    if (out(slot, 0, 4)) return BAD;
    if (slots[slot] == null) return NOTHING;
    if (thingOf(slots[slot]) != 3) return KIND;
    return n == 0 ? NO : (int) ((long) (Integer) slots[slot] % n);
  }

  public int tell(int v) {
    if (waiting.size() == 60) return FULL;
    waiting.add(v);
    return waiting.size();
  }

  public int check(int n) {
    List<Integer> were = waiting;
    waiting = new ArrayList<>();
    if (out(n, 1, 30)) return BAD;
    if (image == null) return NO;
    List<Integer> due = new ArrayList<>();
    State t = image.twin();
    for (int i = 0; i < n && t.minute < 9999; i++) {
      t.minute();
      due.add(t.porridge());
      due.add(t.ate());
    }
    if (were.equals(due)) return 0;
    int same = 0;
    while (same < were.size() && same < due.size() && were.get(same).equals(due.get(same))) same++;
    return 1 + same;
  }

  public int keep() {
    image = s.twin();
    return s.eaters.size();
  }

  public int back() {
    if (image == null) return NO;
    s = image.twin();
    return s.eaters.size();
  }

  public int count(int what) {
    if (out(what, 0, 9)) return BAD;
    int[] all = {s.eaters.size(), s.minute, s.rules[0], s.rules[1], s.rules[2], s.rules[3],
        s.laws.size(), waiting.size(), tape.length(), s.z};
    return all[what];
  }
}
