import java.io.IOException;
import java.io.PrintWriter;
import java.io.StringWriter;
import java.lang.reflect.Field;
import java.lang.reflect.Method;
import java.lang.reflect.Modifier;
import java.nio.file.Files;
import java.nio.file.Path;
import java.util.ArrayList;
import java.util.HashMap;
import java.util.HashSet;
import java.util.List;
import java.util.Map;
import java.util.Optional;
import java.util.Set;
import java.util.TreeSet;
import java.util.regex.Matcher;
import java.util.regex.Pattern;
import java.util.spi.ToolProvider;

/** Those rules of ../shared/LANGUAGE.md that can be seen from outside, in the text or in the compiled program. */
public final class LanguageRules {
  private static final Path PROGRAM = Path.of("src/main/java/OneEach.java");
  private static final Path DOCUMENT = Path.of("../shared/DOC.md");
  private static final String[] FORBIDDEN = {
    "->", "::", "@", "\\bassert\\b", "\\bsynchronized\\b", "\\bfinally\\b", "\\binstanceof\\b", "\\brecord\\b",
    "\\bvar\\b", "\\bprotected\\b", "\\bNullPointerException\\b", "\\bClassCastException\\b", "\\bException\\b",
    "\\bThrowable\\b", "ArrayIndexOutOfBounds", "NegativeArraySize", "Exact\\(", "MAX_VALUE", "MIN_VALUE",
    "\\bgetMessage\\b", "\\bSystem\\.(?!arraycopy)", "\\bString\\b", "\\bdouble\\b", "\\bfloat\\b", "\\brandom\\b",
    "^package ", "^import (?!java\\.util\\.Arrays;)", "Arrays\\.(?!fill|copyOf)", "while \\(true\\)", "for \\(;;\\)"
  };

  /** The class, its constructor (promise 1) and a method for each other promise. */
  private static final int PROMISED = 42;

  private static int wrong = 0;

  private static void rule(int number, boolean holds, String told) {
    if (!holds) {
      wrong++;
      System.out.println("rule " + number + ": " + told);
    }
  }

  /** All that is public, each as it is written, up to its body. */
  private static Set<String> publicOf(String text) {
    Set<String> face = new TreeSet<>();
    Matcher m = Pattern.compile("public [^;{=]*").matcher(text);
    while (m.find()) {
      rule(1, face.add(m.group().strip()), "told twice: " + m.group());
    }
    return face;
  }

  private static void checkWrittenFace() throws IOException {
    String document = Files.readString(DOCUMENT);
    String shown = document.substring(document.indexOf("```java"), document.indexOf("## Terms"));
    Set<String> promised = publicOf(shown);
    Set<String> written = publicOf(withoutComments(Files.readString(PROGRAM)));
    rule(1, promised.size() == PROMISED, "the document promises " + promised.size());
    rule(1, written.equals(promised), "public are " + written + ", promised are " + promised);
  }

  private static String withoutComments(String text) {
    return text.replaceAll("(?s)/\\*.*?\\*/", "").replaceAll("//[^\n]*", "");
  }

  private static void checkFace() {
    Set<String> names = new TreeSet<>();
    for (Method m : OneEach.class.getDeclaredMethods()) {
      if (Modifier.isPublic(m.getModifiers())) {
        names.add(m.getName());
        boolean throwsTold = m.getExceptionTypes().length == (m.getName().equals("element") ? 2 : 0);
        rule(1, throwsTold, "other exceptions: " + m);
      } else {
        rule(1, Modifier.isPrivate(m.getModifiers()), "not private: " + m);
      }
    }
    rule(1, OneEach.class.getDeclaredConstructors().length == 1, "other constructors");
    for (Class<?> c : allClasses()) {
      rule(1, c == OneEach.class || Modifier.isPrivate(c.getModifiers()), "not private: " + c);
      for (Method m : c.getDeclaredMethods()) {
        boolean bears = names.contains(m.getName()) && !Modifier.isPublic(m.getModifiers());
        rule(1, !bears, "bears a public one's name: " + m);
      }
    }
  }

  private static List<Class<?>> allClasses() {
    List<Class<?>> all = new ArrayList<>(List.of(OneEach.class.getDeclaredClasses()));
    all.add(OneEach.class);
    return all;
  }

  private static void checkClasses() {
    rule(11, allClasses().size() <= 12, "more than twelve classes");
    for (Class<?> c : allClasses()) {
      int fields = 0;
      for (Field f : c.getDeclaredFields()) {
        if (Modifier.isStatic(f.getModifiers())) {
          rule(5, Modifier.isFinal(f.getModifiers()), "a static field that isn't final: " + f);
        } else {
          fields++;
        }
        rule(1, Modifier.isPrivate(f.getModifiers()), "not private: " + f);
      }
      rule(11, fields <= 20, c + " has " + fields + " fields");
      rule(2, c == OneEach.class || Modifier.isStatic(c.getModifiers()), c + " isn't static");
      for (Method m : c.getDeclaredMethods()) {
        rule(11, m.getParameterCount() <= 7, "too many parameters: " + m);
      }
    }
  }

  private static String withoutCommentsAndTexts(String line) {
    return line.replaceAll("\"[^\"]*\"", "\"\"").replaceAll("//.*", "").replaceAll("^\\s*/?\\*.*", "");
  }

  private static void checkText() throws IOException {
    List<String> lines = Files.readAllLines(PROGRAM);
    int start = -1;
    for (int i = 0; i < lines.size(); i++) {
      String line = withoutCommentsAndTexts(lines.get(i));
      for (String forbidden : FORBIDDEN) {
        rule(4, !Pattern.compile(forbidden).matcher(line).find(), "line " + (i + 1) + ": " + lines.get(i).trim());
      }
      if (line.matches("^( {2}| {4})(public|private)[^=;]*\\).*\\{$")) {
        start = i;
      } else if (start >= 0 && line.matches("^( {2}| {4})}$")) {
        rule(11, i - start <= 60, "a method of " + (i - start) + " lines ends on line " + (i + 1));
        start = -1;
      }
    }
  }

  // ---- what the compiled program does

  private static final Pattern METHOD = Pattern.compile("^  (\\S.*?)?([\\w$]+)\\(.*\\).*;$");
  private static final Pattern CALLED = Pattern.compile("// Method (?:([\\w$]+)\\.)?(\\w+):");
  private static final Pattern MADE = Pattern.compile(": (new|newarray|anewarray|multianewarray) .*?(\\w+)$");
  private static final int MOST_DEEP = 8;

  /** A method, by its class and name, and what it does. */
  private static final class Seen {
    private final Set<String> calls = new TreeSet<>();
    private boolean isConstructor = false;
    private boolean isPrivateStatic = false;
    private boolean makes = false;
    private boolean throwsIt = false;
    private boolean catchesIt = false;
  }

  private static final Map<String, Seen> SEEN = new HashMap<>();

  private static void readCompiled(ToolProvider javap) {
    for (Class<?> c : allClasses()) {
      StringWriter told = new StringWriter();
      PrintWriter out = new PrintWriter(told);
      javap.run(out, out, "-c", "-p", "-cp", System.getProperty("java.class.path"), c.getName());
      readClass(c.getName(), told.toString());
    }
  }

  private static void readClass(String name, String told) {
    Seen seen = new Seen();
    for (String line : told.split("\n")) {
      Matcher method = METHOD.matcher(line);
      Matcher called = CALLED.matcher(line);
      Matcher made = MADE.matcher(line);
      if (method.matches()) {
        seen = SEEN.computeIfAbsent(name + "." + method.group(2), k -> new Seen());
        seen.isConstructor = method.group(2).equals(name);
        seen.isPrivateStatic = line.startsWith("  private static ");
      } else if (called.find()) {
        seen.calls.add((called.group(1) == null ? name : called.group(1)) + "." + called.group(2));
      } else if (made.find()) {
        seen.makes |= !made.group(2).endsWith("Exception");
      }
      seen.throwsIt |= line.endsWith(": athrow");
      seen.catchesIt |= line.contains("Exception table:");
    }
  }

  /** How many calls stand open at most, the method's own too; one that calls itself is counted once. */
  private static int depth(String method, Set<String> open) {
    int deepest = 0;
    for (String called : SEEN.get(method).calls) {
      if (SEEN.containsKey(called) && !called.equals(method)) {
        boolean isNew = open.add(called);
        rule(8, isNew, method + " and " + called + " call one another");
        deepest = Math.max(deepest, isNew ? depth(called, open) : 0);
        open.remove(called);
      }
    }
    return deepest + 1;
  }

  private static void checkCompiled() {
    Optional<ToolProvider> javap = ToolProvider.findFirst("javap");
    if (javap.isEmpty()) {
      System.out.println("this JDK has no javap: the compiled program was not looked at");
      return;
    }
    readCompiled(javap.get());
    int made = 0;
    int deepest = 0;
    for (String method : SEEN.keySet()) {
      Seen seen = SEEN.get(method);
      int deep = depth(method, new HashSet<>(Set.of(method)));
      deepest = Math.max(deepest, deep);
      made += seen.makes ? 1 : 0;
      rule(11, deep <= MOST_DEEP, method + " goes " + deep + " deep");
      rule(8, !seen.calls.contains(method) || seen.isPrivateStatic, method + " calls itself, but isn't private static");
      rule(6, !seen.throwsIt || !seen.isConstructor, method + " is a constructor that throws");
      rule(6, !seen.throwsIt || !seen.catchesIt, method + " throws and catches");
      rule(12, !seen.makes || seen.isConstructor, method + " makes something that is no exception");
    }
    rule(12, made > 1 && deepest > 4, "the compiled program wasn't read as it should be");
  }

  public static void main(String[] args) throws IOException {
    checkFace();
    checkWrittenFace();
    checkClasses();
    checkText();
    checkCompiled();
    System.out.println(wrong == 0 ? "the rules looked at hold" : wrong + " breaks of rules");
    if (wrong != 0) {
      System.exit(1);
    }
  }
}
