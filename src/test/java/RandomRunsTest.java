import java.lang.reflect.Method;
import java.util.ArrayList;
import java.util.Arrays;
import java.util.List;
import java.util.Random;

/** Long runs of calls by lot, on the class and on the Model: every answer must be the same. */
public final class RandomRunsTest {
  private static final int RUNS = 150;
  private static final int CALLS = 512;
  private static final String PLAIN =
      "eater told cell lays as turns sends cook say rule deal seed minutes town path behind wets deepest"
      + " fee fine feed trim text textTold why sheet mark pour reads copy lay ask item rest tell check keep back count";
  private static final String DEAR = "walled enough stood";
  private static final String ROWS = "mark mark copy copy lay ask item rest pour reads stood";
  private static final int[] ODD = {Integer.MIN_VALUE, Integer.MAX_VALUE, -1000000005, -1, 100000, -99999, 99999};

  private final Random lot;
  private final LittlePot pot = new LittlePot();
  private final Model model = new Model();
  private final List<String> calls = new ArrayList<>();
  private boolean wrong;

  private RandomRunsTest(long seed) {
    lot = new Random(seed);
  }

  public static void main(String[] args) throws Exception {
    int failed = 0;
    for (int run = 0; run < RUNS && failed < 3; run++) {
      RandomRunsTest test = new RandomRunsTest(run);
      test.run();
      if (test.wrong) {
        failed++;
        System.out.println("run " + run + ":");
        List<String> rows = test.calls;
        rows.subList(Math.max(0, rows.size() - 40), rows.size()).forEach(System.out::println);
      }
    }
    System.out.println(failed == 0 ? RUNS + " runs by lot: all answers as the model's" : "some runs differ");
    if (failed != 0) System.exit(1);
  }

  private void run() throws Exception {
    begin();
    while (calls.size() < CALLS && !wrong) {
      int what = lot.nextInt(100);
      if (what < 8) tellText();
      else if (what < 11) checkRows();
      else if (what < 14) call(pick(DEAR));
      else if (what < 30) call(pick(ROWS));
      else call(pick(PLAIN));
    }
  }

  /** A town in which something happens. */
  private void begin() throws Exception {
    both("seed", lot.nextInt());
    if (lot.nextInt(4) > 0) both("deal", 1 + lot.nextInt(8));
    if (lot.nextInt(4) > 0) both("cook", lot.nextInt(36));
    if (lot.nextInt(4) == 0) both("rule", 3, lot.nextInt(101));
    for (int i = lot.nextInt(20); i > 0; i--) both("lays", lot.nextInt(36), lot.nextInt(2), lot.nextInt(6));
    if (lot.nextInt(3) > 0) beginRows();
    if (lot.nextInt(12) == 0) for (int i = 0; i < 167; i++) both("minutes", 60);
  }

  /** Sheets and slots that hold something. */
  private void beginRows() throws Exception {
    for (int i = 0; i < 4; i++) {
      int size = lot.nextInt(25);
      both("sheet", i, lot.nextInt(2), size);
      for (int k = 0; k < size; k++) if (lot.nextInt(3) == 0) both("mark", i, k, lot.nextInt(6) == 0 ? -1000000005 : lot.nextInt(40));
    }
    for (int i = 0; i < 5; i++) both("lay", i, lot.nextInt(4), lot.nextInt(4));
  }

  private String pick(String names) {
    String[] all = names.split(" ");
    return all[lot.nextInt(all.length)];
  }

  private void call(String name) throws Exception {
    for (Method m : LittlePot.class.getDeclaredMethods()) {
      if (m.getName().equals(name)) {
        int[] args = new int[m.getParameterCount()];
        for (int i = 0; i < args.length; i++) args[i] = number(name, i);
        both(name, args);
      }
    }
  }

  private int number(String name, int place) {
    if (lot.nextInt(60) == 0) return ODD[lot.nextInt(ODD.length)];
    if (lot.nextInt(12) == 0) return lot.nextInt(130) - 5;
    int n = lot.nextInt(1 + mostOf(name, place) - leastOf(name, place)) + leastOf(name, place);
    return lot.nextInt(15) == 0 ? n + lot.nextInt(3) - 1 : n;
  }

  private static int leastOf(String name, int place) {
    switch (name + place) {
      case "sheet1": return -1;
      case "mark2": case "lay2": case "rest1": case "seed0": case "tell0": return -40;
      default: return 0;
    }
  }

  private int mostOf(String name, int place) {
    switch (name + place) {
      case "eater0": case "as1": case "turns1": case "told1": case "ask1": case "town0": return 5;
      case "eater1": case "cell0": case "lays0": case "sends1": case "cook0": case "path0": case "path1":
      case "wets0": case "walled0": case "enough0": return 35;
      case "told0": case "as0": case "turns0": case "sends0": case "fine0": return lot.nextInt(3) == 0 ? 7 : 3;
      case "cell1": case "rule0": return 3;
      case "lays1": case "why0": return 2;
      case "lays2": return lot.nextBoolean() ? 20 : 999;
      case "say0": case "count0": return 9;
      case "rule1": return lot.nextBoolean() ? 9 : 100;
      case "deal0": return 8;
      case "minutes0": return lot.nextBoolean() ? 4 : 60;
      case "path2": return lot.nextBoolean() ? 5 : 60;
      case "behind0": case "deepest0": return lot.nextBoolean() ? 6 : 60;
      case "behind1": return 37;
      case "deepest1": case "walled2": case "stood2": case "textTold1": return 1;
      case "walled1": case "stood1": return 20;
      case "enough1": return 40;
      case "textTold0": return 13;
      case "check0": return 30;
      case "stood0": case "sheet0": case "mark0": case "pour0": case "reads0": case "copy0": case "copy2": return 3;
      case "sheet1": return 1;
      case "sheet2": return 24;
      case "mark1": case "item1": case "copy1": case "copy3": case "copy4": return lot.nextBoolean() ? 5 : 24;
      case "lay0": case "ask0": case "item0": case "rest0": return 4;
      case "lay1": return 3;
      case "lay2": return lot.nextBoolean() ? 3 : 40;
      case "trim0": return 96;
      default: return 40;
    }
  }

  private void tellText() throws Exception {
    String key = pick("boil fee fine");
    String names = key.equals("boil") ? "btp" : key.equals("fee") ? "ap" : "ac";
    StringBuilder row = new StringBuilder(key).append(' ').append(expression(names, lot.nextInt(6)));
    if (lot.nextInt(3) == 0) spoil(row);
    if (row.length() > 96) row.setLength(96);
    if (lot.nextInt(8) > 0) both("trim", 0);
    byte[] bytes = new byte[(row.length() + 11) / 12 * 12];
    Arrays.fill(bytes, (byte) 32);
    for (int i = 0; i < row.length(); i++) bytes[i] = (byte) row.charAt(i);
    for (int i = 0; i < bytes.length; i += 12) both("feed", word(bytes, i), word(bytes, i + 4), word(bytes, i + 8));
    if (lot.nextBoolean()) both("trim", row.length());
    both("text");
    for (int k = 0; k < 3; k++) both("why", k);
    both("textTold", model.s.laws.size() - 1, 1);
    both("town", 3);
    both("fee");
    both("fine", 0);
  }

  private static int word(byte[] b, int i) {
    return b[i] << 24 | (b[i + 1] & 255) << 16 | (b[i + 2] & 255) << 8 | b[i + 3] & 255;
  }

  private String expression(String names, int depth) {
    int what = depth <= 0 ? lot.nextInt(2) : lot.nextInt(9);
    String blank = lot.nextInt(6) == 0 ? " " : "";
    if (what == 0) return "" + lot.nextInt(lot.nextInt(4) == 0 ? 10000 : 30);
    if (what == 1) return "" + names.charAt(lot.nextInt(names.length()));
    if (what == 2) return "!" + blank + expression(names, depth - 1);
    if (what == 3) return "(" + blank + expression(names, depth - 1) + blank + ")";
    String sign = "" + "|&<=>+-*/+-*/".charAt(lot.nextInt(13));
    return expression(names, depth - 1) + blank + sign + blank + expression(names, depth - 2);
  }

  private void spoil(StringBuilder row) {
    for (int i = lot.nextInt(3); i >= 0; i--) {
      int at = lot.nextInt(row.length());
      switch (lot.nextInt(4)) {
        case 0: row.insert(at, " abcfpt!()<=&|7012345"
            .charAt(lot.nextInt(21))); break;
        case 1: if (row.length() > 1) row.deleteCharAt(at); break;
        case 2: row.setCharAt(at, (char) lot.nextInt(256)); break;
        default: row.insert(at, lot.nextBoolean() ? "!!!!" + "!!!!".substring(lot.nextInt(4)) : "((((" + "((((".substring(lot.nextInt(4)));
      }
    }
  }

  /** Rows that are right, or right up to somewhere. */
  private void checkRows() throws Exception {
    if (lot.nextInt(3) == 0) both("keep");
    if (lot.nextInt(4) > 0) both("check", 0);
    int n = 1 + lot.nextInt(lot.nextBoolean() ? 4 : 30);
    Model.State t = (model.image == null ? model.s : model.image).twin();
    int shift = lot.nextInt(3) == 0 ? lot.nextInt(2 * n) : -1;
    for (int i = 0; i < n; i++) {
      if (lot.nextInt(40) == 0) break;
      t.minute();
      both("tell", t.porridge() + (shift == 2 * i ? 1 : 0));
      both("tell", t.ate() + (shift == 2 * i + 1 ? 1 : 0));
    }
    if (lot.nextInt(6) == 0) both("tell", 0);
    both("check", n);
    if (lot.nextInt(3) == 0) both("back");
  }

  private void both(String name, int... args) throws Exception {
    // What an object answers behind its 512th call is free.
    if (wrong || calls.size() >= CALLS) return;
    Class<?>[] types = new Class<?>[args.length];
    Object[] values = new Object[args.length];
    for (int i = 0; i < args.length; i++) {
      types[i] = int.class;
      values[i] = args[i];
    }
    Object got = LittlePot.class.getMethod(name, types).invoke(pot, values);
    Object want = Model.class.getMethod(name, types).invoke(model, values);
    wrong = !got.equals(want);
    calls.add(name + Arrays.toString(args) + " answered " + got + (wrong ? ", the model says " + want : ""));
  }
}
