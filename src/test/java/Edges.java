import java.lang.reflect.InvocationTargetException;
import java.lang.reflect.Method;
import java.nio.charset.StandardCharsets;
import java.nio.file.Files;
import java.nio.file.Path;
import java.util.ArrayList;
import java.util.Arrays;
import java.util.HashMap;
import java.util.List;
import java.util.Map;
import java.util.function.Supplier;

/**
 * What the tests of edges share: sentences of the document, calls by name, what is due.
 * Each check stands under a sentence that must be in the document, and no sentence may stay without one.
 */
abstract class Edges {
  static final int BAD = LittlePot.BAD, NO = LittlePot.NO, FULL = LittlePot.FULL, NONE = LittlePot.NONE,
      NOTHING = LittlePot.NOTHING, KIND = LittlePot.KIND, INDEX = LittlePot.INDEX, SIZE = LittlePot.SIZE;
  static final int LOW = Integer.MIN_VALUE, HIGH = Integer.MAX_VALUE;

  private static final String DOC = read();
  private static final boolean[] QUOTED = new boolean[DOC.length()];
  private static final Map<String, Method> CALLS = new HashMap<>();

  private static String place = "";
  private static int askedHere = 1;
  private static int asked = 0;
  private static int wrong = 0;

  static {
    for (Method m : LittlePot.class.getDeclaredMethods()) CALLS.put(m.getName(), m);
  }

  /** Empty, if the document is not there: what the class answers can be tested without it. */
  private static String read() {
    try {
      return Files.readString(Path.of("../shared/DOC.md"), StandardCharsets.UTF_8)
          .replaceAll("```\\w*", " ").replaceAll("======== \\d ", " ").replaceAll("\\s+", " ");
    } catch (java.io.IOException e) {
      System.out.println("../shared/DOC.md cannot be read: the sentences are not looked up");
      return "";
    }
  }

  // ---- sentences

  /** What follows is asked of a promise because the document says this, with that promise or in its terms. */
  static void at(int promise, String sentence) {
    closes();
    place = "promise " + promise + ", \"" + sentence + "\": ";
    askedHere = 0;
    if (!DOC.isEmpty() && !quotes(section(promise), sentence) && !quotes(terms(), sentence)) fails("the document does not say so");
  }

  private static void closes() {
    if (askedHere == 0) fails("nothing was asked");
  }

  private static boolean quotes(int[] range, String sentence) {
    int found = DOC.indexOf(sentence, range[0]);
    if (found < 0 || found + sentence.length() > range[1]) return false;
    Arrays.fill(QUOTED, found, found + sentence.length(), true);
    return true;
  }

  static int[] terms() {
    return new int[] {DOC.indexOf("## Terms ") + 9, DOC.indexOf("Ahead of the calls")};
  }

  static int[] section(int promise) {
    int from = DOC.indexOf("`: ", DOC.indexOf("## Promise " + promise + ":")) + 3;
    int to = DOC.indexOf("## ", from);
    return new int[] {from, to};
  }

  /** Fails for each row of words of the document there that no sentence above has quoted. */
  static void allIsQuoted(String where, int[] range) {
    if (DOC.isEmpty()) return;
    place = where + ": ";
    StringBuilder left = new StringBuilder();
    for (int i = range[0]; i <= range[1]; i++) {
      boolean free = i < range[1] && !QUOTED[i];
      if (free) left.append(DOC.charAt(i));
      if (!free && left.toString().matches(".*\\w.*")) fails("no test stands under \"" + left.toString().trim() + "\"");
      if (!free) left.setLength(0);
    }
  }

  static void ends(String what) {
    closes();
    System.out.println(wrong == 0 ? what + ": " + asked + " answers are as due" : wrong + " answers are not as due");
    if (wrong != 0) System.exit(1);
  }

  private static void fails(String how) {
    wrong++;
    System.out.println(place + how);
  }

  // ---- calls

  static int call(LittlePot x, String name, int... args) {
    Object[] values = new Object[args.length];
    for (int i = 0; i < args.length; i++) values[i] = args[i];
    try {
      return (Integer) CALLS.get(name).invoke(x, values);
    } catch (InvocationTargetException e) {
      fails(name + Arrays.toString(args) + " threw " + e.getCause());
    } catch (ReflectiveOperationException e) {
      fails("there is no " + name + Arrays.toString(args));
    }
    return 0;
  }

  static void due(LittlePot x, int want, String name, int... args) {
    same(name + Arrays.toString(args), call(x, name, args), want);
  }

  static void same(String what, int got, int want) {
    asked++;
    askedHere++;
    if (got != want) fails(what + " answered " + told(got) + ", due is " + told(want));
  }

  private static String told(int v) {
    switch (v) {
      case LittlePot.BAD: return "BAD";
      case LittlePot.NO: return "NO";
      case LittlePot.FULL: return "FULL";
      case LittlePot.NONE: return "NONE";
      case LittlePot.NOTHING: return "NOTHING";
      case LittlePot.KIND: return "KIND";
      case LittlePot.INDEX: return "INDEX";
      case LittlePot.SIZE: return "SIZE";
      default: return "" + v;
    }
  }

  /** The call answers so, and all that can be seen is afterwards as it was. */
  static void leaves(Supplier<LittlePot> made, int want, String name, int... args) {
    LittlePot x = made.get();
    due(x, want, name, args);
    List<Integer> untouched = all(made.get());
    List<Integer> touched = all(x);
    for (int i = 0; i < untouched.size(); i++) {
      if (!untouched.get(i).equals(touched.get(i))) {
        fails(name + Arrays.toString(args) + " changed something: the look round's answer " + i + " was "
            + told(untouched.get(i)) + " and is " + told(touched.get(i)));
        return;
      }
    }
  }

  /** The same, in a town that has something of everything. */
  static void leaves(int want, String name, int... args) {
    leaves(Edges::rich, want, name, args);
  }

  /** All that can be seen of an object, by calls that use it up. */
  private static List<Integer> all(LittlePot x) {
    List<Integer> row = new ArrayList<>();
    seen(x, row);
    for (int s = 0; s < 5; s++) {
      row.add(x.rest(s, 1000003));
      row.add(x.ask(s, 0));
      for (int k = 0; k < 4; k++) row.add(x.item(s, k));
    }
    for (int s = 0; s < 4; s++) {
      row.add(x.lay(0, 2, s));
      for (int k = 0; k < 4; k++) row.add(x.item(0, k));
      row.add(x.mark(s, 0, NONE));
      x.lay(0, 0, 0);
    }
    row.add(x.check(2));
    row.add(x.text());
    row.add(x.fee());
    row.add(x.back());
    seen(x, row);
    return row;
  }

  private static void seen(LittlePot x, List<Integer> row) {
    for (int i = 0; i < 10; i++) row.add(x.count(i));
    for (int i = 0; i < 6; i++) row.add(x.town(i));
    for (int c = 0; c < 36; c++) for (int w = 0; w < 3; w++) row.add(x.cell(c, w));
    for (int e = 0; e < 8; e++) for (int w = 0; w < 3; w++) row.add(x.told(e, w));
    for (int k = 0; k < 3; k++) row.add(x.why(k));
    for (int t = 0; t < 4; t++) for (int w = 0; w < 2; w++) row.add(x.textTold(t, w));
    row.add(x.fee());
    row.add(x.fine(0));
  }

  // ---- towns

  static LittlePot fresh() {
    return new LittlePot();
  }

  /** Nothing flows there as long as no level is above another one by 20 or more. */
  static LittlePot thick() {
    LittlePot x = new LittlePot();
    x.rule(2, 9);
    return x;
  }

  /**
   * Something of everything: five eaters, sheets 0 (3 shorts), 1 (2 floats, the second NO NUMBER), 2 (no places)
   * and 3 (missing), slots 0 (nothing), 1 (an eater), 2 (sheet 1), 3 (a number) and 4 (sheet 0), three texts, a
   * pot that cooks, an image, four numbers that wait and are right for two minutes, five bytes on the tape.
   */
  static LittlePot rich() {
    LittlePot x = new LittlePot();
    x.seed(99);
    for (int k = 1; k < 6; k++) x.eater(k, 6 * k);
    for (int c = 0; c < 36; c += 5) x.lays(c, c % 2, 1 + c % 7);
    x.lays(12, 2, 40);
    x.rule(3, 50);
    x.cook(14);
    text(x, "boil b+t");
    text(x, "fine a*36+c");
    x.minutes(3);
    x.keep();
    for (int i = 1; i <= 2; i++) for (int w = 0; w < 2; w++) x.tell(x.behind(i, w));
    text(x, "fee a+p");
    x.lays(1, 2, 7);
    x.rule(0, 4);
    x.minutes(1);
    x.sheet(0, 0, 3);
    for (int k = 0; k < 3; k++) x.mark(0, k, 11 + k);
    x.sheet(1, 1, 2);
    x.mark(1, 0, -5);
    x.mark(1, 1, NONE);
    x.sheet(2, 1, 0);
    x.lay(1, 1, 1);
    x.lay(2, 2, 1);
    x.lay(3, 3, 17);
    x.lay(4, 2, 0);
    tape(x, "fee 7");
    return x;
  }

  /** Minute 9999 has come, in 167 calls. */
  static void late(LittlePot x) {
    for (int i = 0; i < 167; i++) x.minutes(60);
  }

  // ---- the tape

  static void tape(LittlePot x, String row) {
    x.trim(0);
    for (int i = 0; i < row.length(); i += 12) x.feed(word(row, i), word(row, i + 4), word(row, i + 8));
    x.trim(row.length());
  }

  private static int word(String row, int from) {
    int v = 0;
    for (int i = from; i < from + 4; i++) v = v << 8 | (i < row.length() ? row.charAt(i) : ' ');
    return v;
  }

  static int text(LittlePot x, String row) {
    tape(x, row);
    return x.text();
  }

  /** This is a text of a new object. */
  static void good(String row) {
    same("text '" + row + "'", text(fresh(), row), 0);
  }

  /** The text's fault is there; no text comes, and the tape is used up. */
  static void fault(String row, int where) {
    LittlePot x = new LittlePot();
    same("text '" + row + "'", text(x, row), -100 - where);
    same("texts behind '" + row + "'", x.count(6), 0);
    same("bytes behind '" + row + "'", x.count(8), 0);
  }

  /** Worked out by fee, the row gives this. */
  static void gives(String row, int want) {
    LittlePot x = new LittlePot();
    same("text 'fee " + row + "'", text(x, "fee " + row), 0);
    same("'" + row + "'", x.fee(), want);
  }

  static String times(String row, int many) {
    return row.repeat(many);
  }

  static int drawn(int z) {
    return z * 1103515245 + 12345;
  }
}
