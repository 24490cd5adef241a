import java.io.DataInputStream;
import java.lang.management.ManagementFactory;
import java.lang.reflect.Constructor;
import java.lang.reflect.Field;
import java.lang.reflect.Method;
import java.lang.reflect.Modifier;
import java.nio.charset.StandardCharsets;
import java.nio.file.Files;
import java.nio.file.Path;
import java.util.Set;
import java.util.TreeSet;
import java.util.regex.Matcher;
import java.util.regex.Pattern;

/** Those rules of LANGUAGE.md that can be looked up in the source, the compiled classes and a run. */
public final class LanguageTest {
  private static final String FACE = "eater2 told2 cell2 lays3 as2 turns2 sends2 cook1 say1 rule2 deal1 seed1 minutes1"
      + " town1 path3 behind2 wets1 deepest2 walled3 enough2 stood3 fee0 fine1 feed3 trim1 text0 textTold2 why1 sheet3"
      + " mark3 pour1 reads1 copy5 lay3 ask2 item2 rest2 tell1 check1 keep0 back0 count1";
  private static final String CONSTANTS = "BAD-1000000001 NO-1000000002 FULL-1000000003 NONE-1000000005"
      + " NOTHING-1000000011 KIND-1000000012 INDEX-1000000013 SIZE-1000000014";
  /** Of what LANGUAGE.md lists, what the class uses; Object's constructor is called by every constructor. */
  private static final String LIBRARY = "java/lang/Object.<init> java/lang/Math.min java/lang/Math.max java/lang/Math.abs"
      + " java/lang/System.arraycopy java/lang/String.length java/lang/String.charAt java/lang/String.indexOf";

  private static final Path SOURCE = Path.of("src/main/java/LittlePot.java");

  private static int wrong = 0;

  private static void holds(String rule, boolean held) {
    if (!held) {
      wrong++;
      System.out.println("not so: " + rule);
    }
  }

  public static void main(String[] args) throws Exception {
    face();
    documentsFace();
    nested();
    library();
    source();
    room();
    System.out.println(wrong == 0 ? "the rules of the language hold" : wrong + " rules do not hold");
    if (wrong != 0) System.exit(1);
  }

  private static void face() throws Exception {
    holds("the class is public and final", Modifier.isPublic(LittlePot.class.getModifiers()) && Modifier.isFinal(LittlePot.class.getModifiers()));
    Set<String> methods = new TreeSet<>();
    Set<String> names = new TreeSet<>();
    Set<String> hidden = new TreeSet<>();
    for (Method m : LittlePot.class.getDeclaredMethods()) {
      if (Modifier.isPrivate(m.getModifiers())) {
        hidden.add(m.getName());
        continue;
      }
      names.add(m.getName());
      methods.add(m.getName() + m.getParameterCount());
      boolean ints = m.getReturnType() == int.class;
      for (Class<?> p : m.getParameterTypes()) ints &= p == int.class;
      holds(m + " is public, not static, over ints", ints && m.getModifiers() == Modifier.PUBLIC);
    }
    holds("the methods are the document's: " + methods, methods.equals(new TreeSet<>(Set.of(FACE.split(" ")))));
    hidden.retainAll(names);
    holds("no private method bears the name of a public one: " + hidden, hidden.isEmpty());
    Set<String> constants = new TreeSet<>();
    for (Field f : LittlePot.class.getDeclaredFields()) {
      if (Modifier.isPrivate(f.getModifiers())) continue;
      holds(f + " is a public int, static and final", f.getType() == int.class
          && f.getModifiers() == (Modifier.PUBLIC | Modifier.STATIC | Modifier.FINAL));
      constants.add(f.getName() + f.getInt(null));
    }
    holds("the constants are the document's: " + constants, constants.equals(new TreeSet<>(Set.of(CONSTANTS.split(" ")))));
    Constructor<?>[] made = LittlePot.class.getDeclaredConstructors();
    holds("one constructor", made.length == 1 && Modifier.isPublic(made[0].getModifiers()) && made[0].getParameterCount() == 0);
  }

  /** Each method and constant that the document's face shows stands in the source, word for word. */
  private static void documentsFace() throws Exception {
    Path document = Path.of("../shared/DOC.md");
    if (!Files.exists(document)) return;
    String code = Files.readString(SOURCE).replaceAll("\\s+", " ");
    Matcher face = Pattern.compile("(?s)```java\n(.*?)```").matcher(Files.readString(document));
    holds("the document shows a face", face.find());
    int rows = 0;
    for (String row : face.group(1).split("\n")) {
      String shown = row.trim();
      if (shown.equals("}")) continue;
      rows++;
      boolean method = shown.endsWith(");");
      holds("the face has: " + shown, code.contains(method ? shown.replace(";", " {") : shown));
    }
    holds("the face has its class, its constants, its constructor and 42 methods, not " + rows + " rows", rows == 45);
  }

  private static void nested() {
    Class<?>[] inside = LittlePot.class.getDeclaredClasses();
    holds("at most twelve classes", inside.length + 1 <= 12);
    fields(LittlePot.class);
    for (Class<?> c : inside) {
      holds(c + " is static and not public", Modifier.isStatic(c.getModifiers()) && !Modifier.isPublic(c.getModifiers()));
      fields(c);
    }
  }

  private static void fields(Class<?> c) {
    int own = 0;
    for (Field f : c.getDeclaredFields()) {
      if (!Modifier.isStatic(f.getModifiers())) own++;
      else holds(f + " is final", Modifier.isFinal(f.getModifiers()));
    }
    holds(c + " has at most twenty fields", own <= 20);
    for (Method m : c.getDeclaredMethods()) holds(m + " takes at most seven", m.getParameterCount() <= 7);
  }

  private static void library() throws Exception {
    Set<String> used = calledBy(LittlePot.class);
    for (Class<?> c : LittlePot.class.getDeclaredClasses()) used.addAll(calledBy(c));
    used.removeIf(name -> name.startsWith("LittlePot"));
    used.removeAll(Set.of(LIBRARY.split(" ")));
    holds("nothing of the library but what stands here is used: " + used, used.isEmpty());
  }

  /** The methods and fields that a compiled class names, of any class: they stand among its constants. */
  private static Set<String> calledBy(Class<?> c) throws Exception {
    try (DataInputStream in = new DataInputStream(c.getResourceAsStream("/" + c.getName() + ".class"))) {
      in.skipBytes(8);
      int many = in.readUnsignedShort();
      String[] words = new String[many];
      int[][] parts = new int[many][];
      for (int i = 1; i < many; i++) {
        int tag = in.readUnsignedByte();
        switch (tag) {
          case 1: words[i] = in.readUTF(); break;
          case 3: case 4: in.readInt(); break;
          case 5: case 6: in.readLong(); i++; break;
          case 7: case 8: case 16: case 19: case 20: parts[i] = new int[] {tag, in.readUnsignedShort()}; break;
          case 15: in.readUnsignedByte(); in.readUnsignedShort(); break;
          default: parts[i] = new int[] {tag, in.readUnsignedShort(), in.readUnsignedShort()};
        }
      }
      Set<String> names = new TreeSet<>();
      for (int[] p : parts) {
        // 9, 10, 11: a field, a method, a method of an interface. 17, 18: what lambdas and joined texts are made of.
        if (p != null && p[0] >= 9 && p[0] <= 11) names.add(words[parts[p[1]][1]] + "." + words[parts[p[2]][1]]);
        if (p != null && p[0] >= 17 && p[0] <= 18) names.add("made while it runs: " + words[parts[p[2]][1]]);
      }
      return names;
    }
  }

  private static void source() throws Exception {
    String whole = Files.readString(SOURCE, StandardCharsets.ISO_8859_1);
    for (int i = 0; i < whole.length(); i++) holds("plain signs alone", whole.charAt(i) < 127 && whole.charAt(i) != '\t');
    String code = whole.replaceAll("(?s)/\\*.*?\\*/", "").replaceAll("//[^\n]*", "")
        .replaceAll("\"[^\"\n]*\"", "\"\"").replaceAll("'[^'\n]'", "0");
    String[] banned = {"throw", "throws", "try", "catch", "finally", "synchronized", "assert", "import", "package",
      "protected", "native", "volatile", "transient", "strictfp", "NaN", "hashCode", "toString", "Object", "Integer", "System\\.out"};
    for (String b : banned) holds("no " + b, !Pattern.compile("\\b" + b + "\\b").matcher(code).find());
    holds("no lambda, no method reference", !code.contains("->") && !code.contains("::"));
    holds("no string joined by +", !code.contains("\"\" +") && !code.contains("+ \"\""));
    methodLengths(code);
  }

  private static void methodLengths(String code) {
    Matcher m = Pattern.compile("(?m)^( +)[^\n;=]*\\)\\s*\\{$").matcher(code);
    while (m.find()) {
      int end = code.indexOf("\n" + m.group(1) + "}", m.end());
      long lines = code.substring(m.start(), Math.max(m.start(), end)).chars().filter(c -> c == '\n').count();
      holds("at most sixty lines:" + m.group(), end > 0 && lines <= 60);
    }
  }

  /** All calls of a run live in one room: only texts may make anything, and few. */
  private static void room() {
    com.sun.management.ThreadMXBean bean = (com.sun.management.ThreadMXBean) ManagementFactory.getThreadMXBean();
    LittlePot x = new LittlePot();
    dear(x, 1);
    long ahead = bean.getCurrentThreadAllocatedBytes();
    dear(x, 36);
    long made = bean.getCurrentThreadAllocatedBytes() - ahead;
    holds("dear calls make next to nothing, not " + made + " bytes", made < 60_000);
  }

  private static void dear(LittlePot x, int times) {
    x.deal(8);
    x.cook(9);
    x.sheet(0, 1, 24);
    for (int i = 0; i < times; i++) {
      x.keep();
      x.feed(0x626f696c, 0x20622b31, 0x20202020);
      x.text();
      x.minutes(60);
      x.walled(3, 20, 0);
      x.enough(3, 40);
      x.stood(0, 20, 0);
      x.wets(35);
      x.path(0, 35, 50);
      x.lay(0, 2, 0);
      x.lay(1, 1, 0);
      x.check(30);
      x.back();
    }
  }
}
