import java.lang.management.ManagementFactory;
import java.lang.reflect.Constructor;
import java.lang.reflect.Field;
import java.lang.reflect.Method;
import java.lang.reflect.Modifier;
import java.nio.charset.StandardCharsets;
import java.nio.file.Files;
import java.nio.file.Path;
import java.util.Set;
import java.util.TreeSet;
import java.util.regex.Matcher;
import java.util.regex.Pattern;

/** Those rules of LANGUAGE.md that can be looked up in the source, the compiled classes and a run. */
public final class LanguageTest {
  private static final String FACE = "eater2 told2 cell2 lays3 as2 turns2 sends2 cook1 say1 rule2 deal1 seed1 minutes1"
      + " town1 path3 behind2 wets1 deepest2 walled3 enough2 stood3 fee0 fine1 feed3 trim1 text0 textTold2 why1 sheet3"
      + " mark3 pour1 reads1 copy5 lay3 ask2 item2 rest2 tell1 check1 keep0 back0 count1";
  private static final String CONSTANTS = "BAD NO FULL NONE NOTHING KIND INDEX SIZE";

  private static int wrong = 0;

  private static void holds(String rule, boolean held) {
    if (!held) {
      wrong++;
      System.out.println("not so: " + rule);
    }
  }

  public static void main(String[] args) throws Exception {
    face();
    nested();
    source();
    room();
    System.out.println(wrong == 0 ? "the rules of the language hold" : wrong + " rules do not hold");
    if (wrong != 0) System.exit(1);
  }

  private static void face() {
    holds("the class is public and final", Modifier.isPublic(LittlePot.class.getModifiers()) && Modifier.isFinal(LittlePot.class.getModifiers()));
    Set<String> methods = new TreeSet<>();
    Set<String> names = new TreeSet<>();
    Set<String> hidden = new TreeSet<>();
    for (Method m : LittlePot.class.getDeclaredMethods()) {
      if (Modifier.isPrivate(m.getModifiers())) {
        hidden.add(m.getName());
        continue;
      }
      names.add(m.getName());
      methods.add(m.getName() + m.getParameterCount());
      boolean ints = m.getReturnType() == int.class;
      for (Class<?> p : m.getParameterTypes()) ints &= p == int.class;
      holds(m + " is public, not static, over ints", ints && m.getModifiers() == Modifier.PUBLIC);
    }
    holds("the methods are the document's: " + methods, methods.equals(new TreeSet<>(Set.of(FACE.split(" ")))));
    hidden.retainAll(names);
    holds("no private method bears the name of a public one: " + hidden, hidden.isEmpty());
    Set<String> constants = new TreeSet<>();
    for (Field f : LittlePot.class.getDeclaredFields()) if (!Modifier.isPrivate(f.getModifiers())) constants.add(f.getName());
    holds("the constants are the document's: " + constants, constants.equals(new TreeSet<>(Set.of(CONSTANTS.split(" ")))));
    Constructor<?>[] made = LittlePot.class.getDeclaredConstructors();
    holds("one constructor", made.length == 1 && Modifier.isPublic(made[0].getModifiers()) && made[0].getParameterCount() == 0);
  }

  private static void nested() {
    Class<?>[] inside = LittlePot.class.getDeclaredClasses();
    holds("at most twelve classes", inside.length + 1 <= 12);
    fields(LittlePot.class);
    for (Class<?> c : inside) {
      holds(c + " is static and not public", Modifier.isStatic(c.getModifiers()) && !Modifier.isPublic(c.getModifiers()));
      fields(c);
    }
  }

  private static void fields(Class<?> c) {
    int own = 0;
    for (Field f : c.getDeclaredFields()) {
      if (!Modifier.isStatic(f.getModifiers())) own++;
      else holds(f + " is final", Modifier.isFinal(f.getModifiers()));
    }
    holds(c + " has at most twenty fields", own <= 20);
    for (Method m : c.getDeclaredMethods()) holds(m + " takes at most seven", m.getParameterCount() <= 7);
  }

  private static void source() throws Exception {
    String whole = Files.readString(Path.of("src/main/java/LittlePot.java"), StandardCharsets.ISO_8859_1);
    for (int i = 0; i < whole.length(); i++) holds("plain signs alone", whole.charAt(i) < 127 && whole.charAt(i) != '\t');
    String code = whole.replaceAll("(?s)/\\*.*?\\*/", "").replaceAll("//[^\n]*", "")
        .replaceAll("\"[^\"\n]*\"", "\"\"").replaceAll("'[^'\n]'", "0");
    String[] banned = {"throw", "throws", "try", "catch", "finally", "synchronized", "assert", "import", "package",
      "protected", "native", "volatile", "transient", "strictfp", "NaN", "hashCode", "toString", "Object", "Integer", "System\\.out"};
    for (String b : banned) holds("no " + b, !Pattern.compile("\\b" + b + "\\b").matcher(code).find());
    holds("no lambda, no method reference", !code.contains("->") && !code.contains("::"));
    holds("no string joined by +", !code.contains("\"\" +") && !code.contains("+ \"\""));
    methodLengths(code);
  }

  private static void methodLengths(String code) {
    Matcher m = Pattern.compile("(?m)^( +)[^\n;=]*\\)\\s*\\{$").matcher(code);
    while (m.find()) {
      int end = code.indexOf("\n" + m.group(1) + "}", m.end());
      long lines = code.substring(m.start(), Math.max(m.start(), end)).chars().filter(c -> c == '\n').count();
      holds("at most sixty lines:" + m.group(), end > 0 && lines <= 60);
    }
  }

  /** All calls of a run live in one room: only texts may make anything, and few. */
  private static void room() {
    com.sun.management.ThreadMXBean bean = (com.sun.management.ThreadMXBean) ManagementFactory.getThreadMXBean();
    LittlePot x = new LittlePot();
    dear(x, 1);
    long ahead = bean.getCurrentThreadAllocatedBytes();
    dear(x, 36);
    long made = bean.getCurrentThreadAllocatedBytes() - ahead;
    holds("dear calls make next to nothing, not " + made + " bytes", made < 60_000);
  }

  private static void dear(LittlePot x, int times) {
    x.deal(8);
    x.cook(9);
    x.sheet(0, 1, 24);
    for (int i = 0; i < times; i++) {
      x.keep();
      x.feed(0x626f696c, 0x20622b31, 0x20202020);
      x.text();
      x.minutes(60);
      x.walled(3, 20, 0);
      x.enough(3, 40);
      x.stood(0, 20, 0);
      x.wets(35);
      x.path(0, 35, 50);
      x.lay(0, 2, 0);
      x.lay(1, 1, 0);
      x.check(30);
      x.back();
    }
  }
}
