import java.io.IOException;
import java.lang.reflect.InvocationTargetException;
import java.lang.reflect.Method;
import java.nio.file.Files;
import java.nio.file.Path;
import java.util.ArrayList;
import java.util.Arrays;
import java.util.HashMap;
import java.util.HashSet;
import java.util.List;
import java.util.Map;
import java.util.Set;
import java.util.regex.Matcher;
import java.util.regex.Pattern;

/**
 * Each sentence of the document that names a boundary: the last that is still allowed, the first that isn't.
 *
 * A test tells its promise, the sentence word for word, and calls with the answers due. In the calls, " | " or a new
 * line stands between two, an empty line ahead of a new object; "made TEXT" and "town TEXT" put a text on shelf 7 and
 * ask town(7), "judge 0 1 .." puts bytes on shelf 6 and asks judge(6); a call without an answer must not be refused.
 * Behind every call that is refused, or that only tells, everything that can be asked is as it was ahead of it.
 */
public final class Boundaries {
  private static final Path DOCUMENT = Path.of("../shared/DOC.md");
  private static final int MOST_CALLS = 512;
  private static final int ELEMENTS_WATCHED = 12;
  private static final int MOST_SECONDS = 120;
  private static final Set<String> CHANGING =
      Set.of("town", "law", "lives", "move", "image", "restore", "keep", "row", "put", "copy");

  /** Five streets, eight people: no room for more. */
  private static final String FULL =
      "made s1;s2;s3;s4;s2;pab;pbt0;pcxc;pdh;pe;pf;pg;ph;y019;w04 99;w70 0;l25abc;i00;i22;i33;i74;";

  /** Of everything something, and an image that is unlike it: what a refused call could spoil. */
  private static final String RICH = FULL + "\n" + """
      image() = 8 | law(0, 3) = 2 | lives(4, 1) = 9
      keep(0, 1, 1, 102) = 0 | keep(5, 1, 5, 342) = 0 | keep(6, 1, 7, 621) = 0
      row(1, 0, 3) = 0 | put(1, 0, 3) = 0 | put(1, 1, 9) = 0 | put(1, 2, 5) = 0
      row(2, 1, 2) = 0 | put(2, 1, 700) = 0 | row(3, 2, 2) = 0 | put(3, 0, 70000) = 0
      """;

  private static final Map<String, Method> FACE = new HashMap<>();
  private static final Map<Integer, Integer> SENTENCES = new HashMap<>();
  private static final Set<String> ANSWERED = new HashSet<>();
  private static final Set<String> RANGES = new HashSet<>();

  private static String document = "";
  private static volatile String label = "";
  private static int asked = 0;
  private static int watched = 0;
  private static int wrong = 0;

  // ---- how a test is read and run

  /** What a call is given, and the answer due: a number, the name of an exception, or null for "not refused". */
  private record Call(String name, int[] given, String due) {
    String shown() {
      return name + Arrays.toString(given).replace('[', '(').replace(']', ')');
    }
  }

  private static void fail(String told) {
    wrong++;
    System.out.println(label + ": " + told);
  }

  private static void sentence(int promise, String sentence) {
    label = "promise " + promise + ", \"" + sentence + "\"";
    SENTENCES.merge(promise, 1, Integer::sum);
    if (!document.contains(plain(sentence))) {
      fail("isn't a sentence of the document");
    }
    Matcher m = Pattern.compile("\\w+ \\.\\. \\w+").matcher(sentence);
    while (m.find()) {
      RANGES.add(m.group());
    }
  }

  /** A sentence of a promise, or of Terms; the runs stand in a text, with empty lines between them. */
  private static void test(int promise, String sentence, String runs) {
    sentence(promise, sentence);
    for (String run : runs.split("\n *\n")) {
      runAll(promise, read(run), true);
    }
  }

  /** As test, but each line is a run of its own, behind the same beginning. */
  private static void lines(int promise, String sentence, String ahead, String runs) {
    sentence(promise, sentence);
    for (String run : runs.split("\n")) {
      runAll(promise, read(ahead + "\n" + run), true);
    }
  }

  private static List<Call> read(String run) {
    List<Call> calls = new ArrayList<>();
    for (String line : run.split("\n")) {
      for (String step : line.split(" \\| ")) {
        if (!step.isBlank()) {
          readStep(calls, step.strip());
        }
      }
    }
    return calls;
  }

  private static void readStep(List<Call> calls, String step) {
    int equals = step.lastIndexOf(" = ");
    String told = equals < 0 ? step : step.substring(0, equals);
    String due = equals < 0 ? null : step.substring(equals + 3);
    if (told.startsWith("made ")) {
      addText(calls, told.substring(5), String.valueOf(told.chars().filter(c -> c == ';').count()));
    } else if (told.startsWith("town ")) {
      addText(calls, told.substring(5), due);
    } else if (told.equals("judge") || told.startsWith("judge ")) {
      int[] bytes = numbers(told.substring(5), " ");
      addRow(calls, 6, bytes);
      calls.add(new Call("judge", new int[] {6}, due));
    } else {
      int open = told.indexOf('(');
      calls.add(new Call(told.substring(0, open), numbers(told.substring(open + 1, told.length() - 1), ","), due));
    }
  }

  private static void addText(List<Call> calls, String text, String due) {
    addRow(calls, 7, text.chars().toArray());
    calls.add(new Call("town", new int[] {7}, due));
  }

  private static void addRow(List<Call> calls, int d, int[] bytes) {
    calls.add(new Call("row", new int[] {d, 0, bytes.length}, "0"));
    for (int i = 0; i < bytes.length; i++) {
      calls.add(new Call("put", new int[] {d, i, bytes[i]}, "0"));
    }
  }

  private static int[] numbers(String told, String between) {
    return Arrays.stream(told.split(between)).map(String::strip).filter(s -> !s.isEmpty())
        .mapToInt(s -> s.equals("MAX") ? Integer.MAX_VALUE : s.equals("MIN") ? Integer.MIN_VALUE : Integer.parseInt(s))
        .toArray();
  }

  private static String answer(OneEach x, Call call) {
    try {
      Object[] given = Arrays.stream(call.given()).boxed().toArray();
      return String.valueOf(FACE.get(call.name()).invoke(x, given));
    } catch (InvocationTargetException e) {
      return e.getCause().getClass().getSimpleName();
    } catch (IllegalAccessException e) {
      return "not to be called";
    }
  }

  private static boolean isRefusal(String answer) {
    return answer.startsWith("-") || answer.endsWith("Exception");
  }

  private static void runAll(int promise, List<Call> calls, boolean isWatched) {
    OneEach x = new OneEach();
    String last = null;
    int lastAt = -1;
    for (int i = 0; i < calls.size(); i++) {
      Call call = calls.get(i);
      String got = answer(x, call);
      asked++;
      if (call.due() == null ? isRefusal(got) : !call.due().equals(got)) {
        fail(call.shown() + " answered " + got + ", due is " + (call.due() == null ? "no refusal" : call.due()));
      }
      ANSWERED.add(promise + " " + call.name() + " " + call.due());
      if (isWatched && (!CHANGING.contains(call.name()) || isRefusal(got))) {
        String ahead = lastAt == i ? last : told(calls, i);
        last = told(calls, i + 1);
        lastAt = i + 1;
        watched++;
        if (!ahead.equals(last)) {
          fail(call.shown() + " changed something: \n  " + ahead + "\n  " + last);
        }
      }
    }
    if (calls.size() > MOST_CALLS) {
      fail("more calls than an object is used for");
    }
  }

  // ---- everything that can be asked

  /** All that an object tells after the first so many of the calls. */
  private static String told(List<Call> calls, int n) {
    OneEach x = new OneEach();
    for (int i = 0; i < n; i++) {
      answer(x, calls.get(i));
    }
    Watcher w = new Watcher(x);
    w.calls = n;
    w.tellShelves();
    w.tellTown();
    w.tell("image", x.restore());
    w.tellTown();
    if (w.calls > MOST_CALLS) {
      fail("watched with " + w.calls + " calls, more than an object is used for");
    }
    return w.told.toString();
  }

  private static final class Watcher {
    private final OneEach x;
    private final StringBuilder told = new StringBuilder();
    private int calls = 0;

    private Watcher(OneEach x) {
      this.x = x;
    }

    private long tell(String name, long answer) {
      calls++;
      told.append(' ').append(name).append(' ').append(answer);
      return answer;
    }

    private void tellShelves() {
      for (int d = 0; d < 8; d++) {
        long letters = tell("shelf", x.letters(d));
        if (letters >= 0) {
          tell("toss", x.toss(d));
          tell("wanted", x.wanted(d, 0));
          tell("may", x.wanted(d, 1));
        } else if (letters == -12) {
          tellRow(d);
        }
      }
    }

    private void tellRow(int d) {
      for (int i = 0; i < ELEMENTS_WATCHED; i++) {
        try {
          tell("element", x.element(d, i));
        } catch (IllegalStateException e) {
          calls++;
          return;
        }
      }
    }

    private void tellTown() {
      for (int what = 0; what < 6; what++) {
        tell("count", x.count(what));
      }
      int streets = x.count(0);
      int people = x.count(1);
      for (int s = 0; s < streets; s++) {
        for (int what = 0; what < 4; what++) {
          tell("street", x.street(s, what));
        }
        for (int t = 0; t < streets; t++) {
          tell("way", x.way(s, t));
        }
      }
      for (int p = 0; p < people; p++) {
        for (int what = 0; what < 5; what++) {
          tell("person", x.person(p, what));
        }
        for (int s = 0; s < streets; s++) {
          tell("wish", x.wish(p, s));
        }
      }
      tell("unlawful", x.firstUnlawful());
      for (int what = 0; what < 3; what++) {
        int was = x.law(what, 1);
        tell("law", was);
        x.law(what, was);
      }
      calls += 5;
    }
  }

  /** Calls that are refused where there is something of everything. */
  private static void refusals(int promise, String sentence, String calls) {
    sentence(promise, sentence);
    runAll(promise, read(RICH + "\n" + calls), true);
  }

  private static String plain(String text) {
    return text.replaceAll("\\s+", " ");
  }

  // ---- a new object, its calls

  private static void promise01() {
    test(1, "No STREETS, no PEOPLE.", """
        count(0) = 0 | count(1) = 0 | count(2) = 0 | count(3) = 0 | count(4) = 0 | count(5) = 0
        street(0, 0) = -1 | way(0, 0) = -1 | person(0, 0) = -1 | wish(0, 0) = -1 | lives(0, 9) = -1 | lives(0, 0) = -1
        lawful() = 1 | firstUnlawful() = -4 | worth() = 0 | worthIn(0, 0) = -1
        most(-1) = 0 | most(0) = -1 | best(-1) = 0 | best(0) = -1 | stable() = 1 | found(-1) = 0 | found(0) = -1
        shortest(-1) = -4 | shortest(0) = -4 | learn(0) = -1 | where(0) = -1 | walk(0, 0) = -1 | price(0, 0) = -1
        alone() = 0 | years(1, 0, 0, 0) = 0 | years(30, 7, 99, 1) = 0 | waits(0, 1, 0, 0) = -1 | length() = -3
        newly(1) = 0 | newly(4) = 0 | byLaw(3, 9) = 0 | hiding() = 0 | image() = 0 | restore() = 0

        judge = -4 | judge 0 9 = 0 | keep(0, 1, 0, 0) = 0 | wanted(0, 0) = -13 | wanted(0, 1) = -13 | move(0) = -13
        """);
    test(1, "EACH (1 .. 3; 1 at first)", "law(0, 1) = 1");
    test(1, "NEAR (0 .. 9; 0 at first)", "law(1, 0) = 0");
    test(1, "a CRAFT that COUNTS (a set; all at first)", "law(2, 255) = 255");
    test(1, "SHELVES 0 .. 7 each hold nothing (at first), a MOVE, a ROW.", """
        letters(-1) = -1 | letters(0) = -11 | letters(1) = -11 | letters(2) = -11 | letters(3) = -11
        letters(4) = -11 | letters(5) = -11 | letters(6) = -11 | letters(7) = -11 | letters(8) = -1

        keep(0, 1, 0, 0) = 0 | keep(7, 1, 0, 0) = 0 | keep(8, 1, 0, 0) = -1 | keep(-1, 1, 0, 0) = -1
        letters(0) = 1 | letters(7) = 1 | letters(1) = -11 | letters(6) = -11

        row(0, 0, 1) = 0 | row(7, 0, 1) = 0 | row(8, 0, 1) = -1 | row(-1, 0, 1) = -1
        element(0, 0) = 0 | element(7, 0) = 0 | element(1, 0) = IllegalStateException
        """);
    sentence(1, "An object is used for at most 512 calls after it has been made");
    List<Call> calls = read("law(0, 2) = 1 | law(0, 1) = 2 | ".repeat(251) + "made s1; | lives(0, 0) = -1 | count(2) = 1"
        + " | lives(0, 9) = -1 | law(0, 3) = 1 | law(0, 1) = 3");
    runAll(1, calls, false);
    if (calls.size() != MOST_CALLS) {
      fail("a run of " + calls.size() + " calls");
    }
  }

  // ---- promise 2: what a town may be, how it is read

  private static void promise02Numbers() {
    test(2, "STREETS 0 .. 4 as they come", """
        town s1;s2;s3;s4;s1; = 5 | count(0) = 5 | street(0, 0) = 1 | street(1, 0) = 2 | street(2, 0) = 3
        street(3, 0) = 4 | street(4, 0) = 1 | street(5, 0) = -1 | street(-1, 0) = -1 | town s1; = -2000 | count(0) = 5

        town s1;s1;s1;s1;s1;s1; = -2015 | count(0) = 0

        made s1;s1;s1;s1; | town s1;s1; = -2003 | count(0) = 4 | town s1; = 1 | count(0) = 5
        """);
    test(2, "PEOPLE 0 .. 7 as they come", """
        town pa;pb;pc;pd;pe;pf;pg;ph; = 8 | count(1) = 8 | person(0, 0) = 1 | person(1, 0) = 2 | person(6, 0) = 64
        person(7, 0) = 128 | person(8, 0) = -1 | person(-1, 0) = -1 | town pa; = -2000 | count(1) = 8

        town pa;pa;pa;pa;pa;pa;pa;pa;pa; = -2024 | count(1) = 0

        made pa;pa;pa;pa;pa;pa;pa; | town pa;pb; = -2003 | count(1) = 7 | town pa; = 1 | count(1) = 8
        """);
    lines(2, "HOUSES (1 .. 4)", "", """
        town s1; = 1 | street(0, 0) = 1
        town s4; = 1 | street(0, 0) = 4
        town s0; = -2000 | count(0) = 0
        town s5; = -2000 | count(0) = 0
        town s9; = -2000
        """);
    test(2, "WAY from each to each other one (0 .. 9 minutes; 5 at first, both ways alike)", """
        made s1;s1;s1;y010;y219; | way(0, 1) = 0 | way(1, 0) = 0 | way(1, 2) = 9 | way(2, 1) = 9
        way(0, 2) = 5 | way(2, 0) = 5 | made s1; | way(3, 0) = 5 | way(1, 3) = 5 | town y01:; = -1003

        made s1; | image() | made s1;y019; | way(1, 0) = 9 | restore() | made s1; | way(0, 1) = 5 | way(1, 0) = 5
        """);
    lines(2, "CRAFTS (a set of a .. h, bits 0 .. 7; not empty)", "", """
        town pa; = 1 | person(0, 0) = 1
        town ph; = 1 | person(0, 0) = 128
        town pabcdefgh; = 1 | person(0, 0) = 255
        town p; = -1001 | count(1) = 0
        town p`; = -1001
        town pi; = -1001
        town pA; = -1001
        """);
    test(2, "WISH for each STREET (0 .. 99; 10 at first)", """
        made s1;s1;pa;w00 0;w01 99; | wish(0, 0) = 0 | wish(0, 1) = 99 | town w00 100; = -1006 | town w00 -1; = -1004
        made s1;pa; | wish(0, 2) = 10 | wish(1, 0) = 10 | wish(1, 1) = 10 | wish(1, 2) = 10

        made s1;pa; | image() | made s1;pa;w01 7;w10 8;w11 9; | restore() | made s1;pa;
        wish(0, 1) = 10 | wish(1, 0) = 10 | wish(1, 1) = 10

        made s1;s1;s1;s1;pa;pa;pa;pa;pa;pa;pa;pa; | made s1; | wish(0, 4) = 10 | wish(7, 4) = 10
        """);
    test(2, "TIE (one who came before, or none)", """
        town pa;pat0; = 2 | person(0, 2) = -4 | person(1, 2) = 0 | town pat2; = -2000 | town pat3; = -2000
        town pat1; = 1 | person(2, 2) = 1

        town pat0; = -2000 | count(1) = 0

        made pa;pa;pa;pa;pa;pa;pa; | town pat7; = -2000 | town pat9; = -2000 | town pat6; = 1 | person(7, 2) = 6

        made pa; | image() | made pat0; | restore() | made pa; | person(1, 2) = -4
        """);
    test(2, "HIDES (CRAFTS of its own that it hides; none at first)", """
        town pab;pabxb;pabcdefghxabcdefgh; = 3 | person(0, 1) = 0 | person(1, 1) = 2 | person(2, 1) = 255

        town paxb; = -2000 | town paxab; = -2000 | town pabcdefgxh; = -2000 | town pbxa; = -2000 | count(1) = 0

        made pa; | image() | made paxa; | restore() | made pa; | person(1, 1) = 0
        """);
    test(2, "A LIVING: each of PEOPLE is in a STREET, or in NONE (at first).", """
        made s1;pa;ph; | person(0, 3) = -4 | person(1, 3) = -4 | count(3) = 0
        made i00; | person(0, 3) = 0 | person(1, 3) = -4 | count(3) = 1

        made s1;pa; | image() | made pa;i10; | restore() | made pa; | person(1, 3) = -4
        """);
  }

  private static void promise02Form() {
    String ahead = "made s1;s1;pb;";
    lines(2, "STATEMENTS, each with ; behind: s and HOUSES (a digit): a STREET more", ahead, """
        town s1; = 1 | count(0) = 3
        town s = -1001
        town s; = -1001
        town s/; = -1001
        town s:; = -1001
        town sa; = -1001
        town s1 = -1002
        town s12; = -1002
        town s1s1; = -1002
        town s1: = -1002
        """);
    lines(2, "y, two STREETS (digits), WAY (a digit)", ahead, """
        town y010; = 1 | way(0, 1) = 0
        town y109; = 1 | way(0, 1) = 9
        town y = -1001
        town y; = -1001
        town y5; = -1002
        town y/15; = -1001
        town y:15; = -1001
        town y0 = -1002
        town y0/5; = -1002
        town y0:5; = -1002
        town y01 = -1003
        town y01; = -1003
        town y01/; = -1003
        town y01:; = -1003
        town y015 = -1004
        town y0155; = -1004
        """);
    lines(2, "p, CRAFTS (letters a .. h, rising, at least one)", ahead, """
        town pah; = 1 | person(1, 0) = 129
        town p = -1001
        town p; = -1001
        town pt0; = -1001
        town pxa; = -1001
        town pa = -1002
        town paa; = -1002
        town pba; = -1002
        town pha; = -1002
        town phi; = -1002
        town phh; = -1002
        town pa`; = -1002
        town pabcdefghi; = -1009
        """);
    lines(2, "then perhaps t and one of PEOPLE (a digit)", ahead, """
        town pat0; = 1 | person(1, 2) = 0
        town pat = -1003
        town pat; = -1003
        town pat/; = -1003
        town pat:; = -1003
        town patxa; = -1003
        town pat0 = -1004
        town pat00; = -1004
        town pat0t0; = -1004
        town pat0a; = -1004
        """);
    lines(2, "then perhaps x and CRAFTS (hidden ones, likewise): one more", ahead, """
        town pahxh; = 1 | person(1, 1) = 128 | person(1, 2) = -4
        town pat0xa; = 1 | person(1, 1) = 1 | person(1, 2) = 0
        town pax = -1003
        town pax; = -1003
        town pax`; = -1003
        town paxi; = -1003
        town paxa = -1004
        town paxaa; = -1004
        town pabxba; = -1005
        town phxha; = -1004
        town paxat0; = -1004
        town paxaxa; = -1004
        town pat0x; = -1005
        """);
    lines(2, "w, one of PEOPLE, a STREET (digits), a blank, WISH (1 or 2 digits, no 0 ahead of another)", ahead, """
        town w01 0; = 1 | wish(0, 1) = 0
        town w01 9; = 1 | wish(0, 1) = 9
        town w01 10; = 1 | wish(0, 1) = 10
        town w01 99; = 1 | wish(0, 1) = 99
        town w = -1001
        town w; = -1001
        town w 1; = -1001
        town w/1 1; = -1001
        town w:1 1; = -1001
        town w0 = -1002
        town w0 1; = -1002
        town w0: 1; = -1002
        town w01 = -1003
        town w011; = -1003
        town w01; = -1003
        town w01  = -1004
        town w01 ; = -1004
        town w01  1; = -1004
        town w01 /; = -1004
        town w01 :; = -1004
        town w01 1 = -1005
        town w01 00; = -1005
        town w01 01; = -1005
        town w01 09; = -1005
        town w01 1/; = -1005
        town w01 1:; = -1005
        town w01 99 = -1006
        town w01 100; = -1006
        town w01 999; = -1006
        """);
    lines(2, "l, EACH, NEAR (digits), CRAFTS that COUNT (rising, perhaps none): THE LAW", ahead, """
        town l10; = 1 | law(0, 1) = 1 | law(1, 0) = 0 | law(2, 0) = 0
        town l39abcdefgh; = 1 | law(0, 1) = 3 | law(1, 0) = 9 | law(2, 0) = 255
        town l25ah; = 1 | law(0, 1) = 2 | law(1, 0) = 5 | law(2, 0) = 129
        town l = -1001
        town l; = -1001
        town la; = -1001
        town l/0; = -1001
        town l:0; = -1001
        town l1 = -1002
        town l1; = -1002
        town l1a; = -1002
        town l1:; = -1002
        town l10 = -1003
        town l100; = -1003
        town l10`; = -1003
        town l10i; = -1003
        town l10a = -1004
        town l10aa; = -1004
        town l10ba; = -1004
        town l10ha; = -1004
        """);
    lines(2, "i, one of PEOPLE, a STREET (digits): it lives there.", ahead, """
        town i01; = 1 | person(0, 3) = 1
        town i = -1001
        town i; = -1001
        town i/1; = -1001
        town i:1; = -1001
        town i0 = -1002
        town i0; = -1002
        town i0/; = -1002
        town i0:; = -1002
        town i01 = -1003
        town i011; = -1003
        """);
  }

  private static void promise02Faults() {
    lines(2, "At least one STATEMENT.", "", """
        town  = -1000
        town ; = -1000
        town s1; = 1
        """);
    lines(2, "kind 1 the place of the first byte with which no TOWN can go on (the size, if it ends too early)", "", """
        town z = -1000
        town S1; = -1000
        town s1;; = -1003
        town s1; = 1
        town s1;s = -1004
        town s1;  = -1003
        row(0, 0, 1) | put(0, 0, -1) | town(0) = -1000
        row(0, 0, 3) | put(0, 0, 115) | put(0, 1, 177) | put(0, 2, 59) | town(0) = -1001
        row(0, 0, 3) | put(0, 0, 371) | put(0, 1, -207) | put(0, 2, 59) | town(0) = 1
        """);
    String most = "l10;".repeat(24);
    lines(2, "-1000 times the kind less the place.", "", "town " + most + "l10; = 25\n"
        + "town " + most + "l10s = -1099\n"
        + "town " + "s1;".repeat(33) + "s = -1100\n"
        + "town " + most + "l00; = -2096\n"
        + "town z = -1000\n"
        + "town s0; = -2000\n");
    lines(2, "kind 1 (of any place) goes ahead of kind 2", "", "town s0;q = -1003\n"
        + "town q;s0; = -1000\n"
        + "town s0;" + most + "l = -1100\n"
        + "town i00;s0;l = -1008\n");
    lines(2, "STATEMENTS are tried one behind the other, each on what those ahead of it made", "", """
        town i00;s1;pa; = -2000
        town s1;i00;pa; = -2003
        town s1;pa;i00; = 3
        town pat0;pa; = -2000
        town pa;pat0; = 2
        town s1;y010;s1; = -2003
        town s1;s1;y010; = 3 | way(0, 1) = 0
        town s0;s5;s1; = -2000
        town s1;s5;s0; = -2003
        """);
    test(2, "Without FAULT all of it comes; with one nothing. (A LIVING may be unlawful.)", """
        made s2;pa; | town s1;pb;y015;w00 50;l22ab;i00;s0; = -2028 | town s1;pb;y015;w00 50;l22ab;i00;s = -1029
        count(0) = 1 | count(1) = 1 | wish(0, 0) = 10 | person(0, 3) = -4 | law(0, 1) = 1 | law(1, 0) = 0
        town s1;pb;y018;w00 50;l22ab;i00; = 6 | count(0) = 2 | count(1) = 2 | way(0, 1) = 8 | wish(0, 0) = 50
        person(0, 3) = 0 | law(0, 1) = 2 | law(1, 0) = 2 | law(2, 0) = 3

        town s1;pa;pa;i00;i10; = 5 | lawful() = 0
        """);
    faultsOfDoing();
    test(2, "The ROW that is read, and what is taken from a SHELF, stay there", """
        town l10; = 1 | town(7) = 1 | element(7, 0) = 108 | element(7, 3) = 59 | put(7, 4, 0) = -13 | town(7) = 1

        town s0; = -2000 | element(7, 0) = 115 | element(7, 1) = 48 | town(7) = -2000
        """);
    refusals(2, "-1, -11, -12 (no ROW of bytes).", """
        town(-1) = -1 | town(8) = -1 | town(MIN) = -1 | town(MAX) = -1 | town(4) = -11
        town(0) = -12 | town(2) = -12 | town(3) = -12
        """);
  }

  private static void faultsOfDoing() {
    String told = "(a number out of range, no room, somebody or a STREET that isn't there, a STREET twice, CRAFTS hidden "
        + "that it hasn't)";
    lines(2, told, "made s1;s1;pab;", """
        town s0; = -2000
        town s5; = -2000
        town l00; = -2000
        town l10; = 1
        town l30; = 1
        town l40; = -2000
        town l90; = -2000
        town y020; = -2000
        town y200; = -2000
        town y000; = -2000
        town y110; = -2000
        town y100; = 1
        town pat1; = -2000
        town pabxc; = -2000
        town pbxab; = -2000
        town pabxab; = 1
        town w10 1; = -2000
        town w02 1; = -2000
        town w01 1; = 1
        town i10; = -2000
        town i02; = -2000
        town i09; = -2000
        town i01; = 1
        """);
    refusals(2, "no room, somebody or a STREET that isn't there", """
        town s1; = -2000 | town pa; = -2000
        """);
    refusals(2, "no room, somebody or a STREET that isn't there", """
        town y050; = -2000 | town y500; = -2000 | town y440; = -2000
        """);
    refusals(2, "no room, somebody or a STREET that isn't there", """
        town w80 5; = -2000 | town w75 5; = -2000
        """);
    refusals(2, "no room, somebody or a STREET that isn't there", """
        town i80; = -2000 | town i75; = -2000 | town i79; = -2000
        """);
    test(2, "no room, somebody or a STREET that isn't there",
        FULL + "\ntown y340;w74 5;i73;i74; = 4 | way(4, 3) = 0 | wish(7, 4) = 5 | person(7, 3) = 4\n");
  }

  // ---- promises 3 to 8: what is told of a town

  private static void promises03To06() {
    test(3, "0 HOUSES, 1 how many live there, 2 CRAFTS there (bits, hidden ones too), 3 CRAFTS there that aren't hidden.",
        """
        made s1;s4;pabcdefghxabcdefgh; | street(0, 0) = 1 | street(1, 0) = 4 | street(1, 1) = 0 | street(1, 2) = 0
        street(1, 3) = 0 | lives(0, 1) = 9 | street(1, 1) = 1 | street(1, 2) = 255 | street(1, 3) = 0 | street(0, 2) = 0

        made s1;pa;pb;pc;pd;pe;pf;pg;ph;i00;i10;i20;i30;i40;i50;i60;i70;
        street(0, 0) = 1 | street(0, 1) = 8 | street(0, 2) = 255 | street(0, 3) = 255

        made s2;paxa;pa;i00;i10; | street(0, 2) = 1 | street(0, 3) = 1 | lives(1, 9) = 0 | street(0, 3) = 0
        """);
    refusals(3, "3 CRAFTS there that aren't hidden. -1.", """
        street(-1, 0) = -1 | street(5, 0) = -1 | street(9, 0) = -1 | street(MIN, 0) = -1 | street(MAX, 3) = -1
        street(0, -1) = -1 | street(0, 4) = -1 | street(4, 4) = -1 | street(4, MIN) = -1 | street(4, MAX) = -1
        street(4, 0) = 2 | street(4, 3) = 128
        """);
    test(3, "STREETS 0 .. 4 as they come", "made s3; | street(0, 0) = 3 | street(1, 0) = -1");
    test(4, "WAY of two STREETS (of one 0).", """
        made s1;s1;y019; | way(0, 1) = 9 | way(1, 0) = 9 | way(0, 0) = 0 | way(1, 1) = 0 | made y100; | way(0, 1) = 0
        """);
    refusals(4, "WAY of two STREETS (of one 0). -1.", """
        way(5, 0) = -1 | way(0, 5) = -1 | way(-1, 0) = -1 | way(0, -1) = -1 | way(5, 5) = -1 | way(-1, -1) = -1
        way(9, 9) = -1 | way(MIN, 0) = -1 | way(0, MAX) = -1 | way(4, 0) = 5 | way(0, 4) = 5 | way(4, 4) = 0
        """);
    test(4, "STREETS 0 .. 4 as they come", "made s1;s1; | way(1, 2) = -1 | way(2, 1) = -1 | way(2, 2) = -1");
    test(5, "0 CRAFTS, 1 HIDES, 2 TIE (-4), 3 its STREET (-4: NONE), 4 its WORTH now.", """
        made s1;pabcdefghxabcdefgh;pat0;w00 99; | person(0, 0) = 255 | person(0, 1) = 255 | person(0, 2) = -4
        person(0, 3) = -4 | person(0, 4) = 0 | person(1, 0) = 1 | person(1, 1) = 0 | person(1, 2) = 0
        lives(0, 0) = 9 | person(0, 3) = 0 | person(0, 4) = 123

        made s2;pa;pa;w00 0;i00;i10; | person(0, 4) = 0 | person(1, 4) = 10 | lives(1, 9) = 0 | person(0, 4) = 3
        """);
    refusals(5, "4 its WORTH now. -1.", """
        person(-1, 0) = -1 | person(8, 0) = -1 | person(9, 3) = -1 | person(MIN, 4) = -1 | person(MAX, 1) = -1
        person(0, -1) = -1 | person(0, 5) = -1 | person(7, 5) = -1 | person(7, MIN) = -1 | person(7, MAX) = -1
        person(7, 4) = 13 | person(7, 0) = 128
        """);
    test(5, "PEOPLE 0 .. 7 as they come", "made pa; | person(0, 0) = 1 | person(1, 0) = -1");
    refusals(6, "WISH of one for a STREET. -1.", """
        wish(-1, 0) = -1 | wish(8, 0) = -1 | wish(0, -1) = -1 | wish(0, 5) = -1 | wish(0, 9) = -1 | wish(8, 5) = -1
        wish(MIN, 0) = -1 | wish(MAX, 0) = -1 | wish(0, MIN) = -1 | wish(0, MAX) = -1
        wish(0, 4) = 99 | wish(7, 0) = 0 | wish(7, 4) = 10
        """);
    test(6, "WISH for each STREET (0 .. 99; 10 at first)", """
        made s1;pa;pa;w00 0;w10 99; | wish(0, 0) = 0 | wish(1, 0) = 99 | wish(2, 0) = -1 | wish(0, 1) = -1
        made pa; | wish(2, 0) = 10
        """);
  }

  private static void promises07To08() {
    test(7, "EACH (what 0), NEAR (1), CRAFTS that COUNT (2): what it was.", """
        law(0, 3) = 1 | law(0, 2) = 3 | law(0, 1) = 2 | law(1, 9) = 0 | law(1, 0) = 9 | law(2, 0) = 255
        law(2, 255) = 0
        law(0, 0) = -1 | law(0, 1) = 1 | law(0, 4) = -1 | law(0, 1) = 1 | law(1, -1) = -1 | law(1, 10) = -1
        law(1, 0) = 0 | law(2, -1) = -1 | law(2, 256) = -1 | law(2, 255) = 255
        """);
    refusals(7, "CRAFTS that COUNT (2): what it was. -1.", """
        law(0, 0) = -1 | law(0, 4) = -1 | law(0, -1) = -1 | law(0, MAX) = -1 | law(0, MIN) = -1
        law(1, -1) = -1 | law(1, 10) = -1 | law(1, MAX) = -1 | law(1, MIN) = -1
        law(2, -1) = -1 | law(2, 256) = -1 | law(2, MAX) = -1 | law(2, MIN) = -1
        law(-1, 1) = -1 | law(3, 1) = -1 | law(MIN, 1) = -1 | law(MAX, 1) = -1
        """);
    test(7, "EACH (1 .. 3; 1 at first)",
        "law(0, 1) = 1 | law(0, 3) = 1 | law(0, 4) = -1 | law(0, 0) = -1 | law(0, 1) = 3");
    test(7, "NEAR (0 .. 9; 0 at first)",
        "law(1, 0) = 0 | law(1, 9) = 0 | law(1, 10) = -1 | law(1, -1) = -1 | law(1, 0) = 9");
    test(8, "One lives in a STREET (9: NONE), lawful or not: where it was (9: NONE).", """
        made s1;s1;s1;s1;s1;pa;pa; | lives(0, 9) = 9 | lives(0, 0) = 9 | lives(0, 4) = 0 | lives(0, 4) = 4
        lives(1, 4) = 9 | lawful() = 0 | lives(0, 9) = 4 | lives(0, 9) = 9 | person(0, 3) = -4 | person(1, 3) = 4

        made s1;pa; | lives(0, 1) = -1 | lives(0, 0) = 9 | lives(1, 0) = -1 | lives(0, 1) = -1 | person(0, 3) = 0
        """);
    refusals(8, "where it was (9: NONE). -1.", """
        lives(-1, 0) = -1 | lives(8, 0) = -1 | lives(MIN, 9) = -1 | lives(MAX, 9) = -1 | lives(8, 9) = -1
        lives(-1, 9) = -1
        lives(0, -1) = -1 | lives(0, 5) = -1 | lives(0, 6) = -1 | lives(0, 8) = -1 | lives(0, 10) = -1
        lives(0, MIN) = -1 | lives(0, MAX) = -1 | lives(0, -4) = -1
        """);
  }

  // ---- promises 9 to 12: the law, worth

  private static void promises09To10() {
    String each = "EACH (1 .. 3; 1 at first): no STREET may have more than EACH of PEOPLE with a CRAFT";
    test(9, each, """
        made s4;pa;pa;pa;pa; | lawful() = 1 | lives(0, 0) | lawful() = 1 | lives(1, 0) | lawful() = 0 | law(0, 2)
        lawful() = 1 | lives(2, 0) | lawful() = 0 | law(0, 3) | lawful() = 1 | lives(3, 0) | lawful() = 0
        firstUnlawful() = 0 | lives(0, 9) | lawful() = 1

        made s4;ph;pgh;pfh;peh; | lives(0, 0) | lawful() = 1 | lives(1, 0) | lawful() = 0 | law(0, 2)
        lawful() = 1 | lives(2, 0) | lawful() = 0 | law(0, 3) | lawful() = 1 | lives(3, 0) | lawful() = 0
        """);
    test(9, "a CRAFT that COUNTS (a set; all at first) and that these don't HIDE", """
        made s2;pgh;pgh;i00;i10; | lawful() = 0 | law(2, 128) = 255 | lawful() = 0 | law(2, 64) = 128 | lawful() = 0
        law(2, 63) = 64 | lawful() = 1 | law(2, 0) = 63 | lawful() = 1 | law(2, 255) = 0 | lawful() = 0

        made s2;pa;paxa;i00;i10; | lawful() = 1

        made s2;pab;pabxb;i00;i10; | lawful() = 0

        made s2;pahxh;pbhxh;i00;i10; | lawful() = 1

        made s4;s4;y010;pa;pa;pa;pa;pa;pa;pa;pa;l31;i00;i10;i20;i30;i41;i51;i61;i71;
        lawful() = 1 | law(2, 254) = 0 | lawful() = 1 | law(2, 1) = 254 | lawful() = 0 | firstUnlawful() = 0
        """);
    test(9, "NEAR (0 .. 9; 0 at first): if above 0, STREETS whose WAY is below NEAR count together with it.", """
        made s1;s1;pa;pa;i00;i11;y010; | lawful() = 1 | law(1, 1) = 0 | lawful() = 0 | law(1, 0) = 1 | lawful() = 1

        made s1;s1;pa;pa;i00;i11;y018; | law(1, 8) = 0 | lawful() = 1 | law(1, 9) = 8 | lawful() = 0
        firstUnlawful() = 0 | law(0, 2) = 1 | lawful() = 1

        made s1;s1;pa;pa;i00;i11;y019; | law(1, 9) = 0 | lawful() = 1

        made s1;s1;pa;pa;i00;i11; | law(1, 5) = 0 | lawful() = 1 | law(1, 6) = 5 | lawful() = 0
        """);
    String houses = "no STREET has more PEOPLE than HOUSES";
    test(9, houses, """
        made s1;s4;pa;pb;pc;pd;pe; | lives(0, 0) | lawful() = 1 | lives(1, 0) | lawful() = 0 | firstUnlawful() = 0
        lives(1, 1) | lives(2, 1) | lives(3, 1) | lawful() = 1 | lives(4, 1) | lawful() = 1 | lives(0, 1)
        lawful() = 0 | firstUnlawful() = 1

        made s2;s3;pa;pb;pc;pd;i00;i10; | lawful() = 1 | lives(2, 0) | lawful() = 0 | lives(0, 1) | lives(1, 1)
        lives(2, 1) | lawful() = 1 | lives(3, 1) | lawful() = 0
        """);
    test(9, "those with a TIE are where the other one is, or one of both is in NONE", """
        made s2;s2;pa;pbt0; | lawful() = 1 | lives(0, 0) | lawful() = 1 | lives(1, 1) | lawful() = 0
        firstUnlawful() = 9 | lives(0, 9) | lawful() = 1 | lives(0, 1) | lawful() = 1 | firstUnlawful() = -4
        """);
    sentence(9, "Whether the LIVING is LAWFUL: 1, 0.");
    runAll(9, read("lawful() = 1 | made s1;pa;pa; | lives(0, 0) | lawful() = 1 | lives(1, 0) | lawful() = 0"), true);
    test(10, "the least STREET in which THE LAW or HOUSES don't hold; a STREET's number 9: only TIES don't.", """
        made s1;s1;s1;s1;s1;pa;pb;pct0; | firstUnlawful() = -4 | lives(0, 4) | firstUnlawful() = -4 | lives(1, 4)
        firstUnlawful() = 4 | lives(2, 0) | firstUnlawful() = 4 | lives(1, 0) | firstUnlawful() = 0 | lives(1, 9)
        firstUnlawful() = 9 | lives(2, 9) | firstUnlawful() = -4

        made s4;s4;pa;pa;pb;pb;i00;i10;i21;i31; | firstUnlawful() = 0 | lives(0, 9) = 0 | firstUnlawful() = 1
        """);
    test(10, "FIRST UNLAWFUL; -4.", "firstUnlawful() = -4 | made s1;pa;i00; | firstUnlawful() = -4");
  }

  private static void promises11To12() {
    test(11, "WORTH of a LIVING: all WORTHS.", """
        worth() = 0 | made s4;s4;pa;pb; | worth() = 0 | lives(1, 1) | worth() = 13 | lives(0, 1) | worth() = 26

        made s4;s4;pa;pb;pc;pd;pe;pf;pg;ph; | made w00 99;w10 99;w20 99;w30 99;w41 99;w51 99;w61 99;w71 99;
        made i00;i10;i20;i30;i41;i51;i61;i71; | worth() = 816 | lives(7, 9) = 1 | worth() = 714
        """);
    test(11, "3 for each of its CRAFTS that nobody else in that STREET has (hidden or not, both); in NONE 0.", """
        made s4;pabcdefgh;pa;pahxah;w00 0;i00; | worth() = 24 | lives(1, 0) | worth() = 31 | lives(1, 9) | lives(2, 0)
        worth() = 28 | person(0, 4) = 18 | person(2, 4) = 10 | lives(0, 9) | worth() = 16 | lives(2, 9) | worth() = 0

        made s1;s1;pa;pa;w00 0;w01 0;i00;i11; | person(0, 4) = 3 | lives(0, 1) = 0 | person(0, 4) = 0

        made s2;paxa;paxa;w00 0;i00;i10; | person(0, 4) = 0
        """);
    test(12, "WORTH of one in a STREET with the others as they are.", """
        made s1;s1;s1;s1;s1;pabcdefgh;pa;w04 99;w00 0;i04;i10;
        worthIn(0, 4) = 123 | worthIn(0, 0) = 21 | worthIn(0, 1) = 34 | worthIn(1, 4) = 10 | worthIn(1, 0) = 13

        made s1;pa;w00 0; | worthIn(0, 0) = 3 | lives(0, 0) = 9 | worthIn(0, 0) = 3
        """);
    refusals(12, "WORTH of one in a STREET with the others as they are. -1.", """
        worthIn(-1, 0) = -1 | worthIn(8, 0) = -1 | worthIn(0, -1) = -1 | worthIn(0, 5) = -1 | worthIn(0, 9) = -1
        worthIn(MIN, 0) = -1 | worthIn(MAX, 0) = -1 | worthIn(0, MIN) = -1 | worthIn(0, MAX) = -1
        worthIn(0, 4) = 105 | worthIn(7, 4) = 13
        """);
  }

  // ---- promises 13 and 14: moves

  private static void promise13Worth() {
    String more = "A MOVE is WANTED, if all whose STREET changes by it have more WORTH then than before (TOLD without that)";
    test(13, more, """
        made s2;s2;pa;w01 9;i00; | keep(0, 1, 1, 1) | wanted(0, 0) = 0 | made w01 10; | wanted(0, 0) = 0
        made w01 11; | wanted(0, 0) = 1 | wanted(0, 1) = 1

        made s2;pa;pa;l20;w10 0;i00; | keep(0, 1, 1, 100) | wanted(0, 0) = 0 | made w10 1; | wanted(0, 0) = 1

        made s1;s1;pa;pb;w01 11;w10 11;i00;i11; | keep(0, 1, 2, 10) | wanted(0, 0) = 1 | wanted(0, 1) = 1
        made w10 10; | wanted(0, 0) = 0 | made w10 11;w01 10; | wanted(0, 0) = 0 | wanted(0, 1) = 1

        made s1;s1;pa;pb;w01 11;w10 11;i00;i11; | keep(0, 1, 3, 1) | wanted(0, 0) = 1 | wanted(0, 1) = 1
        made w10 10; | wanted(0, 0) = 0 | made w10 11;w01 10; | wanted(0, 0) = 0 | wanted(0, 1) = 1

        made s2;s2;pa;w01 10;i00; | keep(0, 1, 4, 1) | wanted(0, 0) = 0 | made w01 11; | wanted(0, 0) = 1

        made s1;s2;s1;pa;pb;w01 11;w11 11;i00;i12; | keep(0, 1, 5, 11) | wanted(0, 0) = 1 | wanted(0, 1) = 1
        made w11 10; | wanted(0, 0) = 0 | made w11 11;w01 10; | wanted(0, 0) = 0 | wanted(0, 1) = 1

        made s2;s2;pab;pab;w01 16;i00;i11; | keep(0, 1, 7, 1) | wanted(0, 0) = 0 | made w01 17; | wanted(0, 0) = 1

        made s1;pabcdefgh;w00 99;i00; | keep(0, 1, 6, 0) | wanted(0, 0) = 1 | wanted(0, 1) = 1
        """);
    test(13, "one that changes nobody's STREET never is; it MAY be, if the LIVING then is LAWFUL.", """
        made s2;s1;pa;pb;w01 99;i00;i10; | keep(0, 1, 0, 1) | wanted(0, 0) = 0 | wanted(0, 1) = 1
        keep(0, 1, 1, 0) | wanted(0, 0) = 0 | wanted(0, 1) = 1 | keep(0, 1, 2, 10) | wanted(0, 0) = 0 | wanted(0, 1) = 1
        keep(0, 1, 3, 0) | wanted(0, 0) = 0 | wanted(0, 1) = 1 | keep(0, 1, 4, 0) | wanted(0, 0) = 0 | wanted(0, 1) = 1
        keep(0, 1, 5, 10) | wanted(0, 0) = 0 | wanted(0, 1) = 1 | keep(0, 1, 7, 0) | wanted(0, 0) = 0 | wanted(0, 1) = 1

        made s2;s1;pa;pb; | keep(0, 1, 6, 0) | wanted(0, 0) = 0 | wanted(0, 1) = 1 | keep(0, 1, 2, 10)
        wanted(0, 0) = 0

        made s1;pa;pb;i00;i10; | keep(0, 1, 0, 0) | wanted(0, 1) = 0 | keep(0, 1, 1, 0) | wanted(0, 1) = 0
        keep(0, 1, 2, 10) | wanted(0, 1) = 0 | keep(0, 1, 6, 0) | wanted(0, 0) = 1 | wanted(0, 1) = 1
        made pc;i20; | wanted(0, 0) = 1 | wanted(0, 1) = 0
        """);
  }

  private static void promise13Kinds() {
    test(13, "MOVE nothing. ONE: WHO goes to TO.", """
        made s1;s2;pa;pb;pc;w01 11;i00;i11; | keep(0, 1, 0, 1) | wanted(0, 0) = 0 | wanted(0, 1) = 1 | move(0) = -3
        keep(0, 1, 1, 1) | wanted(0, 0) = 1 | wanted(0, 1) = 1 | lives(2, 1) | wanted(0, 1) = 0 | move(0) = -3
        lives(2, 9) | move(0) = 1 | person(0, 3) = 1 | keep(0, 1, 1, 200) | move(0) = 1 | person(2, 3) = 0
        """);
    test(13, "each with one of PEOPLE (WHO), another one (OTHER), a STREET (TO; 0 .. 4).", """
        made s1;s1;pa;pb;w01 11;w10 11;i00; | keep(0, 1, 1, 11) | wanted(0, 0) = 1 | move(0) = 1 | person(0, 3) = 1

        made s1;s1;pa;pb;w01 11;w10 11;i00; | keep(0, 1, 4, 11) | wanted(0, 0) = 1 | move(0) = 1 | person(0, 3) = 1

        made s1;s1;pa;pb;w01 11;w10 11;i00;i11; | keep(0, 1, 3, 11) | wanted(0, 0) = 1 | move(0) = 2 | person(0, 3) = 1

        made s1;s1;pa;pb;w01 11;w10 11;i00;i11; | keep(0, 1, 6, 11) | wanted(0, 0) = 1 | move(0) = 1 | person(1, 3) = 1

        made s2;s2;pa;pb;w01 11;w10 11;i00;i11; | keep(0, 1, 7, 11) | wanted(0, 0) = 1 | move(0) = 1 | person(0, 1) = 1
        person(1, 1) = 0 | person(1, 3) = 1

        made s1;s1;pa;pb;w01 11;w10 11;i00;i11; | keep(0, 1, 2, 19) | wanted(0, 0) = 1 | move(0) = 2 | person(1, 3) = 0

        made s1;s1;pa;pb;w01 11;w10 11;i00;i11; | keep(0, 1, 2, 100) | wanted(0, 0) = 1 | move(0) = 2 | person(1, 3) = 0
        """);
    test(13, "SWAP: WHO and OTHER change STREETS (NONE too).", """
        made s1;pa;pb;i00; | keep(0, 1, 2, 10) | wanted(0, 0) = 0 | wanted(0, 1) = 1
        keep(0, 1, 2, 100) | wanted(0, 0) = 0 | wanted(0, 1) = 1 | made i10; | wanted(0, 1) = 0
        """);
    test(13, "if TO had as many as HOUSES, or more, ahead of it, the one of the least number there (but WHO) goes to where",
        """
        made s1;s2;pa;pb;pc;w01 11;w10 11;i00;i11; | keep(0, 1, 3, 1) | wanted(0, 0) = 1 | wanted(0, 1) = 1
        move(0) = 1
        person(0, 3) = 1 | person(1, 3) = 1

        made s1;s2;pa;pb;pc;w01 11;w10 11;i00;i11;i21; | keep(0, 1, 3, 1) | wanted(0, 0) = 1 | wanted(0, 1) = 1
        move(0) = 2 | person(0, 3) = 1 | person(1, 3) = 0 | person(2, 3) = 1

        made s1;s2;pa;pb;pc;pd;w01 11;w10 11;i00;i11;i21;i31; | keep(0, 1, 3, 1) | wanted(0, 0) = 1 | wanted(0, 1) = 0
        move(0) = -3 | lives(3, 9) = 1 | move(0) = 2

        made s1;s2;pa;pb;pc;w20 11;i01;i11;i20; | keep(0, 1, 3, 1) | wanted(0, 0) = 0 | wanted(0, 1) = 1 | move(0) = -3

        made s1;pa;pb;i10; | keep(0, 1, 3, 0) | wanted(0, 0) = 0 | wanted(0, 1) = 1 | move(0) = -3
        lives(1, 9) = 0 | wanted(0, 0) = 1 | move(0) = 1

        made s1;s1;pa;pb;w10 10;w01 11;i00;i11; | keep(0, 1, 3, 1) | move(0) = -3 | made w10 11; | move(0) = 2

        made s1;s2;pa;pb;pc;w00 11;w21 11;i01;i11;i20; | keep(0, 1, 3, 201) | move(0) = 2 | person(0, 3) = 0
        person(1, 3) = 1 | person(2, 3) = 1
        """);
    test(13, "WAIT: as a ONE, if fewer than HOUSES are in TO; else nothing.", """
        made s1;s2;pa;pb;pc;pd;w01 11;i00; | keep(0, 1, 4, 1) | wanted(0, 0) = 1 | wanted(0, 1) = 1 | lives(1, 1)
        wanted(0, 0) = 1 | wanted(0, 1) = 1 | lives(2, 1) | wanted(0, 0) = 0 | wanted(0, 1) = 1 | move(0) = -3
        lives(3, 1) | wanted(0, 0) = 0 | wanted(0, 1) = 0 | lives(3, 9) | lives(2, 9) | move(0) = 1 | person(0, 3) = 1

        made s1;pa;pb; | keep(0, 1, 4, 0) | wanted(0, 0) = 1 | lives(1, 0) | wanted(0, 0) = 0 | wanted(0, 1) = 1
        """);
    test(13, "PAIR: both go to TO.", """
        made s1;s2;pa;pb;pc;w01 11;w11 11;i00; | keep(0, 1, 5, 11) | wanted(0, 0) = 1 | wanted(0, 1) = 1 | lives(2, 1)
        wanted(0, 0) = 1 | wanted(0, 1) = 0 | move(0) = -3 | lives(2, 9) | lives(1, 1) | wanted(0, 0) = 1 | move(0) = 1
        wanted(0, 0) = 0 | wanted(0, 1) = 1
        """);
    test(13, "TOLD: WHO goes to NONE.", """
        made s1;pa;i00; | keep(0, 1, 6, 0) | wanted(0, 0) = 1 | move(0) = 1 | person(0, 3) = -4 | wanted(0, 0) = 0
        wanted(0, 1) = 1 | move(0) = -3
        """);
    test(13, "HIDDEN: as a ONE, and WHO hides all its CRAFTS.", """
        made s2;s2;pab;pab;w01 17;i00;i11; | keep(0, 1, 1, 1) | wanted(0, 0) = 1 | wanted(0, 1) = 0
        keep(0, 1, 7, 1) | wanted(0, 0) = 1 | wanted(0, 1) = 1 | person(0, 1) = 0 | move(0) = 1 | person(0, 1) = 3
        person(0, 3) = 1 | wanted(0, 0) = 0 | move(0) = -3

        made s2;pabcdefgh;pa;i00;i10; | keep(0, 1, 7, 0) | lawful() = 0 | wanted(0, 0) = 0 | wanted(0, 1) = 1
        move(0) = -3 | person(0, 1) = 0

        made s1;pabcdefghxa; | keep(0, 1, 7, 0) | move(0) = 1 | person(0, 1) = 255
        """);
  }

  private static String thereOf(int kind, int wot, boolean isThere) {
    String keep = "keep(4, 1, " + kind + ", " + wot + ") | ";
    return keep + (isThere ? "wanted(4, 0) | wanted(4, 1)" : "wanted(4, 0) = -13 | wanted(4, 1) = -13 | move(4) = -13")
        + "\n";
  }

  private static void promise13There() {
    sentence(13, "-13 (WHO, OTHER of a SWAP, PAIR, TO of others but MOVE, TOLD, SWAP that isn't there).");
    for (int kind = 0; kind < 8; kind++) {
      boolean hasOther = kind == 2 || kind == 5;
      boolean hasTo = kind != 0 && kind != 2 && kind != 6;
      runAll(13, read(RICH + thereOf(kind, 700, true) + thereOf(kind, 800, false) + thereOf(kind, 900, false)
          + thereOf(kind, 70, true) + thereOf(kind, 80, !hasOther) + thereOf(kind, 90, !hasOther)
          + thereOf(kind, 14, true) + thereOf(kind, 15, !hasTo) + thereOf(kind, 19, !hasTo)), true);
      runAll(13, read("keep(4, 1, " + kind + ", 10) | wanted(4, 0) = -13 | made pa; | wanted(4, 0) = "
          + (hasTo || hasOther ? -13 : 0) + " | made pa; | wanted(4, 0) = " + (hasTo ? -13 : 0)), true);
    }
    test(13, "a STREET (TO; 0 .. 4)", """
        made s1;s1;s1;s1;s1;pa; | keep(0, 1, 1, 0) | wanted(0, 0) = 1 | keep(0, 1, 1, 4) | wanted(0, 0) = 1
        keep(0, 1, 1, 5) | wanted(0, 0) = -13
        """);
    refusals(13, "-1, -11, -12 (no MOVE), -13 (WHO, OTHER of a SWAP, PAIR", """
        wanted(-1, 0) = -1 | wanted(8, 1) = -1 | wanted(MIN, 0) = -1 | wanted(MAX, 0) = -1 | wanted(0, -1) = -1
        wanted(0, 2) = -1 | wanted(0, MIN) = -1 | wanted(0, MAX) = -1 | wanted(4, 0) = -11 | wanted(4, 1) = -11
        wanted(1, 0) = -12 | wanted(2, 1) = -12 | wanted(3, 0) = -12 | wanted(4, 2) = -1 | wanted(1, 2) = -1
        """);
  }

  private static void promise14() {
    test(14, "The MOVE in SHELF d is done, if it is WANTED and MAY be: how many STREETS of PEOPLE changed.", """
        made s1;s2;pa;pb;w01 11;i00;i11; | keep(0, 1, 1, 1) | move(0) = 1 | person(0, 3) = 1 | letters(0) = 3
        move(0) = -3

        made s1;s1;pa;pb;w01 11;w10 11;i00;i11; | keep(0, 1, 2, 10) | move(0) = 2 | person(0, 3) = 1 | person(1, 3) = 0

        made s1;s1;pa;pb;w01 11;i00;i11; | keep(0, 1, 1, 1) | wanted(0, 0) = 1 | wanted(0, 1) = 0 | move(0) = -3
        keep(0, 1, 2, 10) | wanted(0, 0) = 0 | wanted(0, 1) = 1 | move(0) = -3 | keep(0, 1, 0, 0) | move(0) = -3

        made s1;s2;pa;pbt0;w01 11;w11 11;i00; | keep(0, 1, 5, 11) | move(0) = 2
        """);
    refusals(14, "-1, -11, -12, -13, -3.", """
        move(-1) = -1 | move(8) = -1 | move(MIN) = -1 | move(MAX) = -1 | move(4) = -11 | move(1) = -12 | move(2) = -12
        move(3) = -12
        """);
    test(14, "-1, -11, -12, -13, -3.", RICH + """
        keep(4, 1, 1, 800) | move(4) = -13 | keep(4, 1, 1, 5) | move(4) = -13 | keep(4, 1, 2, 80) | move(4) = -13
        keep(4, 1, 0, 0) | move(4) = -3 | keep(4, 1, 1, 0) | move(4) = -3 | keep(4, 1, 6, 500) | move(4) = -3
        keep(4, 1, 1, 604) | move(4) = 1 | keep(4, 1, 6, 700) | move(4) = 1 | keep(4, 1, 7, 704) | move(4) = 1
        """);
  }

  // ---- promise 15: told moves looked at

  private static void promise15() {
    String ahead = "made s1;s1;pa;pb;w01 11;i00;i11;";
    lines(15, "the place (of WHO) of the first that isn't there, not WANTED (TO 9 always is), or MAY not be", ahead, """
        judge 0 9 = -4
        judge 1 9 = -4
        judge 2 9 = 0
        judge -1 9 = 0
        judge 127 9 = 0
        judge -128 9 = 0
        judge 0 2 = 0
        judge 0 -1 = 0
        judge 0 8 = 0
        judge 0 10 = 0
        judge 0 9 2 9 = 2
        judge 0 9 0 2 = 2
        judge 0 0 = 0
        judge 0 1 = 0
        judge 1 9 0 1 = -4
        judge 1 9 0 1 1 0 = -4
        judge 1 9 0 1 1 1 = 4
        judge 1 9 0 1 0 0 = 4
        judge 0 9 0 9 = -4
        judge 0 9 0 0 = -4
        judge 0 9 0 9 1 9 1 9 1 1 = -4
        judge 0 9 1 0 = 2
        judge 256 265 257 9 = -4
        """);
    lines(15, "the size, if its size is odd and all ahead went; -4.", ahead, "judge = -4\njudge 0 = 1\njudge 5 = 1\n"
        + "judge 0 9 = -4\njudge 0 9 0 = 3\njudge 0 9 7 = 3\njudge 2 9 0 = 0\njudge 0 9 2 9 0 = 2\n"
        + "judge" + " 0 9".repeat(50) + " = -4\n"
        + "judge" + " 0 9".repeat(49) + " 2 9 = 98\n"
        + "judge" + " 0 9".repeat(49) + " 0 = 99\n"
        + "judge" + " 0 9".repeat(48) + " 2 9 0 = 96\n");
    test(15, "or MAY not be", """
        made s1;pa;pb;pc;i00;i10;i20; | judge 0 9 = 0 | lives(2, 9) | judge 0 9 = -4 | judge 0 9 2 0 = 2

        made s2;pa;pa;i00;i10; | judge 0 9 = -4
        """);
    refusals(15, "-1, -11, -12 (no ROW of bytes).", """
        judge(-1) = -1 | judge(8) = -1 | judge(MIN) = -1 | judge(MAX) = -1 | judge(4) = -11 | judge(0) = -12
        judge(2) = -12 | judge(3) = -12
        """);
  }

  // ---- promises 16 and 17: the most, the best

  private static void promise16() {
    test(16, "MOST (person -1); the STREET of one in that LIVING (-4: NONE).", """
        most(-1) = 0 | most(0) = -1 | made pa; | most(-1) = 0 | most(0) = -4 | most(1) = -1 | made s1; | most(-1) = 1
        most(0) = 0

        made s4;s4;pa;pb;pc;pd;pe;pf;pg;ph; | most(-1) = 8 | most(0) = 0 | most(3) = 0 | most(4) = 1 | most(7) = 1

        made s4;s3;pa;pb;pc;pd;pe;pf;pg;ph; | most(-1) = 7 | most(0) = 0 | most(6) = 1 | most(7) = -4
        """);
    test(16, "of all such LIVINGS the first: by PEOPLE in order, STREETS in order, NONE last.", """
        made s1;s1;pa;pa;pa; | most(-1) = 2 | most(0) = 0 | most(1) = 1 | most(2) = -4

        made s4;pab;pa;pb; | most(-1) = 2 | most(0) = -4 | most(1) = 0 | most(2) = 0

        made s1;s1;s1;s1;s1;pa;pa;pa;pa;pa; | most(-1) = 5 | most(0) = 0 | most(4) = 4
        """);
    test(16, "no STREET may have more than EACH of PEOPLE with a CRAFT", """
        made s4;pa;pa;pa;pa; | most(-1) = 1 | law(0, 2) | most(-1) = 2 | law(0, 3) | most(-1) = 3 | most(2) = 0
        most(3) = -4 | law(2, 0) | most(-1) = 4

        made s1;s1;pa;pa;y018; | most(-1) = 2 | law(1, 8) | most(-1) = 2 | law(1, 9) | most(-1) = 1 | most(1) = -4

        made s2;s2;pa;pa;pbt0;pct1; | most(-1) = 4 | most(2) = 0 | most(3) = 1 | made pdt0; | most(-1) = 4
        most(4) = -4
        """);
    test(16, "those with a TIE are where the other one is, or one of both is in NONE", """
        made s4;pab;pat0;pb; | most(-1) = 2 | most(0) = -4 | most(1) = 0 | most(2) = 0

        made s1;s1;pa;pbt0; | most(-1) = 1 | most(0) = 0 | most(1) = -4 | best(-1) = 10 | made w11 11; | best(-1) = 11
        best(0) = -4 | best(1) = 1 | most(0) = 0
        """);
    refusals(16, "the STREET of one in that LIVING (-4: NONE). -1.", """
        most(-2) = -1 | most(8) = -1 | most(9) = -1 | most(MIN) = -1 | most(MAX) = -1 | most(-1) = 8
        """);
  }

  private static void promise17() {
    test(17, "BEST: the sum (person -1); the STREET of one (-4: NONE).", """
        best(-1) = 0 | best(0) = -1 | made pa; | best(-1) = 0 | best(0) = -4 | best(1) = -1 | made s1; | best(-1) = 10

        made s4;s4;pa;pb;pc;pd;pe;pf;pg;ph; | made w00 99;w10 99;w20 99;w30 99;w41 99;w51 99;w61 99;w71 99;
        best(-1) = 792 | best(0) = 0 | best(3) = 0 | best(4) = 1 | best(7) = 1
        """);
    test(17, "the LAWFUL LIVING of the greatest sum of WISHES (in NONE 0) likewise; its sum.", """
        made s1;pa;w00 0; | best(-1) = 0 | best(0) = 0

        made s1;pa;pa;w00 5;w10 6; | best(-1) = 6 | best(0) = -4 | best(1) = 0

        made s1;pa;pa;w00 6;w10 6; | best(-1) = 6 | best(0) = 0 | best(1) = -4

        made s1;s1;pa;pb;w00 0;w01 0;w10 0;w11 0; | best(0) = 0 | best(1) = 1

        made s2;s2;pa;pbt0;w01 30;w10 25; | best(-1) = 40 | best(0) = 1 | best(1) = 1 | made w10 31; | best(-1) = 41
        best(0) = 0 | best(1) = 0
        """);
    refusals(17, "BEST: the sum (person -1); the STREET of one (-4: NONE). -1.", """
        best(-2) = -1 | best(8) = -1 | best(9) = -1 | best(MIN) = -1 | best(MAX) = -1
        """);
  }

  // ---- promises 18 to 20: stable, found, shortest

  private static void promises18To19() {
    test(18, "STABLE: no ONE, SWAP or CHAIN (of any of PEOPLE, STREETS) is WANTED and MAY be.", """
        stable() = 1 | made s1; | stable() = 1 | made pa; | stable() = 0 | lives(0, 0) | stable() = 1

        made s1;s1;pa;i00; | stable() = 1 | made w01 11; | stable() = 0 | made w01 9; | stable() = 1

        made s2;pa;pa;l20a;w10 0;i00; | stable() = 1 | made w10 1; | stable() = 0

        made s1;s1;pa;pb;w01 11;w10 11;i00;i11; | stable() = 0 | made w10 10; | stable() = 1 | made w10 11;w01 10;
        stable() = 1

        made s2;s2;pa;pa;w01 11;w10 11;i00;i11; | stable() = 0 | made w10 10; | stable() = 1 | made w10 11;
        lives(0, 9)
        lives(0, 0) | stable() = 0 | lives(1, 9) | stable() = 0

        made s2;s2;s2;pb;pa;pa;w11 11;w20 11;i02;i10;i21; | stable() = 0 | made w02 0; | stable() = 0 | made w20 10;
        stable() = 0 | made w02 10; | stable() = 1

        made s1;pa;pa;i00; | stable() = 1 | lives(1, 0) | stable() = 1

        made s1;s1;s1;s1;s1;pa;pb;pc;pd;pe;pf;pg;ph; | made i70; | stable() = 0 | made i00;i11;i22;i33;i44;
        lives(7, 9)
        stable() = 1 | made w34 11;w43 11; | stable() = 0
        """);
    test(18, "STABLE: 1, 0.", "stable() = 1 | made s1;pa; | stable() = 0");
    test(19, "FOUND: how many (person -1); the STREET of one then (-4: NONE).", """
        found(-1) = 0 | found(0) = -1 | made pa; | found(-1) = 0 | found(0) = -4 | found(1) = -1 | made s1;
        found(-1) = 1
        found(0) = 0 | person(0, 3) = -4

        made s1;s1;pa;i00; | found(-1) = 0 | found(0) = 0 | made w01 11; | found(-1) = 1 | found(0) = 1

        made s1;s1;s1;s1;s1;pa;w01 11;w02 12;w03 13;w04 14; | found(-1) = 5 | found(0) = 4

        made s1;pa;pa; | found(-1) = 1 | found(0) = 0 | found(1) = -4

        made s1;s1;pa;pa;w01 20;w10 30; | found(-1) = 3 | found(0) = 1 | found(1) = 0
        """);
    refusals(19, "the STREET of one then (-4: NONE). -1.", """
        found(-2) = -1 | found(8) = -1 | found(9) = -1 | found(MIN) = -1 | found(MAX) = -1
        """);
    promise19Most();
  }

  /** A town in which 43 would go on one behind the other; three ahead, so the last of forty can be seen. */
  private static void promise19Most() {
    sentence(19, "again and again the first ONE (by WHO, then TO) that is WANTED and MAY be is done, 40 at most");
    String[] wishes = {"11 14 17 16 19", "11 12 13 13 14", "10 12 16 20 15", "11 12 15 19 22", "10 13 17 14 23",
        "10 12 15 20 15", "11 12 16 13 23", "11 12 15 20 22"};
    StringBuilder town = new StringBuilder("made s4;s4;s4;s4;s4;pa;pab;pa;pab;pa;pa;pa;pab;l30;\n");
    for (int p = 0; p < 8; p++) {
      String[] own = wishes[p].split(" ");
      town.append("made ");
      for (int s = 0; s < 5; s++) {
        town.append("w").append(p).append(s).append(' ').append(own[s]).append(';');
      }
      town.append('\n');
    }
    runAll(19, read(town + "found(-1) = 40 | found(0) = 2 | found(1) = 1 | found(2) = 3 | found(3) = 4 | found(4) = 4 | "
        + "found(5) = 3 | found(6) = 4 | found(7) = 2"), false);
    runAll(19, read(town + "lives(0, 2) | found(-1) = 40 | found(0) = 2 | found(7) = 3"), false);
    runAll(19, read(town + "lives(0, 4) | found(-1) = 39 | found(0) = 2 | found(7) = 3"), false);
  }

  private static void promise20() {
    String most = "the least number of ONES one behind the other (1 .. 3), each WANTED as it is done, unlike WHO each, "
        + "LAWFUL after the last one (between perhaps not), all whose WHO have more WORTH at the end than now";
    test(20, most, """
        shortest(-1) = -4 | made s1;s1;pa;i00; | shortest(-1) = -4 | shortest(0) = -4 | made w01 11; | shortest(-1) = 1
        shortest(0) = 1 | shortest(1) = -4

        made s1;s1;pa;pb;w01 11;w10 11;i00;i11; | shortest(-1) = 2 | shortest(0) = 1 | shortest(1) = 10
        shortest(2) = -4 | made w10 10; | shortest(-1) = -4

        made s1;s1;s1;pa;pb;pc;w01 20;w02 0;w10 0;w12 20;w20 20;w21 0;i00;i11;i22;
        shortest(-1) = 3 | shortest(0) = 1 | shortest(1) = 12 | shortest(2) = 20 | shortest(3) = -4

        made s1;s1;s1;s1;pa;pb;pc;pd;w01 20;w02 0;w03 0;w10 0;w12 20;w13 0;i00;i11;i22;i33;
        made w20 0;w21 0;w23 20;w30 20;w31 0;w32 0; | shortest(-1) = -4 | shortest(0) = -4

        made s2;s2;pa;pat0;l20a;w01 11;w11 14;i00;i10; | shortest(-1) = 2 | shortest(0) = 1 | shortest(1) = 11
        made w01 10; | shortest(-1) = -4

        made s2;s2;pa;pat0;l20a;w10 11;w00 14;i01;i11; | shortest(-1) = 2 | shortest(0) = 10 | shortest(1) = 0
        made w10 10; | shortest(-1) = -4

        made s1;s1;s1;pa;pa;pb;w00 10;w01 11;w02 13;w10 12;w11 0;w12 10;w21 99;w20 0;w22 0; | made i00;i12;i21;
        shortest(-1) = -4
        """);
    test(20, "of several the first by WHO, TO of the first, then of the second, ..: how many, the i-th as 10 WHO and TO; -4.",
        """
        made s1;s1;s1;pa;w01 20;w02 30;i00; | shortest(-1) = 1 | shortest(0) = 1

        made s1;s1;s1;pa;pb;w11 30; | shortest(0) = 0 | lives(0, 0) | shortest(0) = 11 | lives(1, 1) | shortest(0) = -4

        made s1;s1;s1;s1;s1;pa;pb;pc;pd;pe;pf;pg;ph;i70; | shortest(0) = 1 | made i00;i11;i22;i33;i44; | lives(7, 9)
        made w34 11;w43 11; | shortest(-1) = 2 | shortest(0) = 34 | shortest(1) = 43
        """);
    test(20, "SHORTEST: how many (i -1), the i-th; -4. -1.", """
        shortest(-2) = -1 | shortest(-1) = -4 | shortest(0) = -4 | shortest(3) = -4 | shortest(MAX) = -4
        shortest(MIN) = -1 | made s1;pa; | shortest(-2) = -1 | shortest(-1) = 1 | shortest(0) = 0 | shortest(1) = -4
        shortest(2) = -4 | shortest(3) = -4 | shortest(MAX) = -4 | shortest(MIN) = -1
        """);
    refusals(20, "SHORTEST: how many (i -1), the i-th; -4. -1.", "shortest(-2) = -1 | shortest(MIN) = -1");
  }

  // ---- promises 21 to 25: crafts, ways, prices

  private static void promises21To22() {
    String learn = "which CRAFT more (not hidden) one of PEOPLE should have so that THE LAW holds in each STREET and its "
        + "WORTH is most; of several the least (-4 none: in NONE, or none may be).";
    test(21, learn, """
        made s2;pa;pb; | learn(0) = -4 | lives(0, 0) | learn(0) = 1 | lives(1, 0) | learn(0) = 2 | learn(1) = 2
        lives(0, 9) | learn(1) = 0 | law(0, 2) | lives(0, 0) | learn(0) = 2

        made s1;pabcdefgh; | learn(0) = -4 | lives(0, 0) | learn(0) = -4

        made s1;pabcdefg;i00; | learn(0) = 7

        made s1;pbcdefgh;i00; | learn(0) = 0

        made s2;pa;pbcdefgh;i00;i10; | learn(0) = -4 | law(0, 2) | learn(0) = 1 | law(0, 1) | law(2, 254)
        learn(0) = -4
        law(2, 127) | learn(0) = 7

        made s2;s2;pa;pb;pb;i00;i11;i21; | learn(0) = -4 | law(0, 2) | learn(0) = 1 | law(0, 1) | lives(2, 9)
        learn(0) = 1

        made s1;s1;pa;pb;i00;i11;y018; | law(1, 8) | learn(0) = 1 | law(1, 9) | learn(0) = 2

        made s4;pacdefgh;pb;pb;l20b;i00;i10;i20; | learn(0) = -4 | law(0, 3) | learn(0) = 1

        made s2;pabxb;pcxc;i00;i10; | learn(0) = 3

        made s2;pab;pcdefghxcdefgh;i00;i10; | learn(0) = 2

        made s1;pabcdefghxh;i00; | learn(0) = -4

        made s2;pa;pabcdefgh;l20;w00 0;i00;i10; | learn(0) = 1
        """);
    refusals(21, "LEARN; -4. -1.", """
        learn(-1) = -1 | learn(8) = -1 | learn(9) = -1 | learn(MIN) = -1 | learn(MAX) = -1 | learn(7) = 0
        learn(6) = -4
        """);
    test(22, "WHERE: the STREET in which, with the others as they are, it MAY be and has most WORTH; of several the least; -4.",
        """
        made pa; | where(0) = -4 | made s1; | where(0) = 0 | lives(0, 0) | where(0) = 0 | made pa; | where(1) = -4
        made s1; | where(1) = 1

        made s1;s1;s1;s1;s1;pa;w04 11; | where(0) = 4 | made w04 10; | where(0) = 0 | made w04 9;w03 11; | where(0) = 3

        made s2;s1;pa;pb;pc;w20 99;i00; | where(2) = 0 | lives(1, 0) | where(2) = 1 | lives(1, 1) | lives(0, 1)
        where(2) = -4

        made s4;s1;pa;pa;pa;w20 99;i00; | where(2) = 1 | law(0, 2) | where(2) = 0 | lives(1, 0) | where(2) = 1
        law(0, 3) | where(2) = 0

        made s1;s1;pa;w00 0;w01 0; | where(0) = 0

        made s2;pa;pa;l20a;w10 0;i00; | where(1) = 0 | law(0, 1) | where(1) = -4
        """);
    refusals(22, "WHERE; -4. -1.", """
        where(-1) = -1 | where(8) = -1 | where(9) = -1 | where(MIN) = -1 | where(MAX) = -1 | where(7) = 1
        """);
  }

  private static void promises23To25() {
    test(23, "WALK: the least WAY from a STREET to one (itself 0) in which somebody has a CRAFT; -4.", """
        made s2;s1;s1;pa;pahxh;y010;y029; | walk(0, 0) = -4 | lives(0, 2) | walk(0, 0) = 9 | walk(2, 0) = 0
        walk(1, 0) = 5 | lives(1, 1) | walk(0, 0) = 0 | walk(0, 7) = 0 | walk(2, 7) = 5 | lives(1, 0) | walk(0, 7) = 0
        walk(2, 7) = 9 | lives(1, 9) | walk(0, 7) = -4 | walk(0, 1) = -4
        """);
    refusals(23, "WALK; -4. -1.", """
        walk(-1, 0) = -1 | walk(5, 0) = -1 | walk(9, 0) = -1 | walk(MIN, 0) = -1 | walk(MAX, 0) = -1 | walk(0, -1) = -1
        walk(0, 8) = -1 | walk(4, 8) = -1 | walk(0, MIN) = -1 | walk(0, MAX) = -1 | walk(5, 8) = -1
        walk(4, 7) = 0 | walk(0, 0) = 0
        """);
    test(24, "10 and twice the WALK to the nearest other STREET with it (20 more without any), 5 less for each one more in "
        + "that STREET with it (0 at least); 0, if nobody there has it.", """
        made s4;s4;s4;pa;pa;pa;pa;pa;pa;pa;pa;y010;y029; | price(0, 0) = 0 | lives(0, 0) | price(0, 0) = 30
        price(1, 0) = 0 | lives(1, 2) | price(0, 0) = 28 | price(2, 0) = 28 | lives(1, 1) | price(0, 0) = 10
        lives(2, 0) | price(0, 0) = 5 | lives(3, 0) | price(0, 0) = 0 | lives(4, 0) | price(0, 0) = 0
        price(1, 0) = 10 | price(0, 1) = 0

        made s4;s4;pa;pa;pa;pa;pa;pa;pa;pa;i00;i10;i20;i30;i40;i50; | price(0, 0) = 5 | lives(6, 0) | price(0, 0) = 0
        lives(7, 0) | price(0, 0) = 0

        made s4;s4;pah;pahxh;i00;i11;y010; | price(0, 7) = 10 | lives(1, 0) | price(0, 7) = 25
        """);
    refusals(24, "PRICE. -1.", """
        price(-1, 0) = -1 | price(5, 0) = -1 | price(9, 0) = -1 | price(MIN, 0) = -1 | price(MAX, 0) = -1
        price(0, -1) = -1 | price(0, 8) = -1 | price(4, 8) = -1 | price(0, MIN) = -1 | price(0, MAX) = -1
        price(4, 7) = 20 | price(4, 0) = 0
        """);
    test(25, "ALONE: how many CRAFTS just one of all PEOPLE in STREETS has.", """
        alone() = 0 | made s4;s4;pabcdefgh;pahxh;pa; | alone() = 0 | lives(0, 0) | alone() = 8 | lives(1, 1)
        alone() = 6
        lives(2, 1) | alone() = 6 | lives(0, 9) | alone() = 1 | lives(1, 9) | alone() = 1 | lives(2, 9) | alone() = 0

        made s4;s4;pa;pb;pc;pd;pe;pf;pg;ph;i00;i10;i20;i30;i41;i51;i61; | alone() = 7 | lives(7, 1) | alone() = 8
        """);
  }

  // ---- promises 26 to 31: years, other streets, other laws

  private static void promise26() {
    test(26, "n years (1 .. 30) from a seed z (in mind)", """
        made s1;pa;i00; | years(0, 1, 50, 1) = -1 | years(1, 1, 50, 1) = 1 | years(29, 1, 50, 1) = 14
        years(30, 1, 50, 1) = 15 | years(31, 1, 50, 1) = -1 | years(29, 2, 50, 1) = 17 | years(30, 2, 50, 1) = 18
        person(0, 3) = 0
        """);
    test(26, "a DRAW below 100; below DEATH (told, 0 .. 99) it goes to NONE, else nothing", """
        made s1;pa;i00; | years(1, 0, 0, 1) = 0 | years(1, 0, 1, 1) = 1 | years(1, -1625, 0, 1) = 0
        years(1, -1625, 1, 1) = 1 | years(1, -1952, 98, 1) = 0 | years(1, -1952, 99, 1) = 1 | years(1, -1804, 99, 1) = 0
        years(30, 77, 99, 1) = 29 | years(30, 1, 99, 1) = 30 | years(30, 1, 0, 1) = 0 | years(1, 1, 100, 1) = -1
        years(1, 1, -1, 1) = -1 | years(2, 0, 68, 1) = 1 | years(2, 0, 69, 1) = 2
        """);
    test(26, "DRAWS: z becomes z times 1103515245 plus 12345 (an int); a DRAW is (z without its sign's bit over 65536, cut) "
        + "modulo 100.", """
        made s1;pa;i00; | years(1, 2, 8, 1) = 0 | years(1, 2, 9, 1) = 1 | years(1, -1, 29, 1) = 0
        years(1, -1, 30, 1) = 1
        years(1, MAX, 29, 1) = 0 | years(1, MAX, 30, 1) = 1 | years(1, MIN, 0, 1) = 0 | years(1, MIN, 1, 1) = 1
        years(1, 77, 97, 1) = 0 | years(1, 77, 98, 1) = 1 | years(1, -1998, 0, 1) = 0 | years(1, -1998, 1, 1) = 1
        years(1, -1905, 98, 1) = 0 | years(1, -1905, 99, 1) = 1 | years(1, -1967, 99, 1) = 0
        years(1, 65536, 77, 1) = 0
        years(1, 65536, 78, 1) = 1 | years(3, 2, 39, 1) = 2 | years(3, 2, 40, 1) = 3 | years(30, MIN, 50, 1) = 11
        years(30, MAX, 50, 1) = 15 | years(30, -2, 50, 1) = 16
        """);
    test(26, "each year each one of PEOPLE in a STREET by numbers", """
        made s1;pa;pb;i10; | years(1, 0, 1, 1) = 1 | years(1, 0, 0, 1) = 0

        made s1;s1;pa;pb;pc;i10;i21; | waits(0, 1, 0, 1) = 0 | waits(1, 1, 0, 1) = 1 | waits(2, 1, 0, 1) = 0
        """);
    test(26, "then each in NONE (also those of that year) by numbers goes to WHERE it may (as above), if there is one: how many "
        + "are in NONE at the end; over all years how many went to NONE", """
        years(1, 0, 99, 0) = 0 | made pa; | years(30, 0, 99, 0) = 1 | years(30, 0, 99, 1) = 0 | made s1;
        years(1, 0, 99, 0) = 0 | years(1, 0, 99, 1) = 0 | years(2, 0, 99, 1) = 1 | made pb; | years(1, 0, 0, 0) = 1

        made s4;s4;pa;pb;pc;pd;pe;pf;pg;ph; | years(1, 0, 0, 0) = 0 | years(30, 7, 0, 0) = 0

        made s1;s1;pa;pb;w01 11;i00; | years(1, 0, 1, 1) = 1 | waits(1, 1, 0, 1) = 0
        """);
    refusals(26, "YEARS: in NONE at the end (what 0), how many went to NONE (1). -1.", """
        years(0, 0, 0, 0) = -1 | years(31, 0, 0, 0) = -1 | years(-1, 0, 0, 0) = -1 | years(MIN, 0, 0, 0) = -1
        years(MAX, 0, 0, 0) = -1 | years(1, 0, -1, 0) = -1 | years(1, 0, 100, 0) = -1 | years(1, 0, MIN, 0) = -1
        years(1, 0, MAX, 0) = -1 | years(1, 0, 0, -1) = -1 | years(1, 0, 0, 2) = -1 | years(1, 0, 0, MIN) = -1
        years(1, 0, 0, MAX) = -1 | years(30, MIN, 99, 0) | years(1, MAX, 0, 1) = 0
        """);
  }

  private static void promise27() {
    test(27, "WAITS of one of PEOPLE: in how many years' ends it was in NONE.", """
        made pa; | waits(0, 1, 5, 99) = 1 | waits(0, 30, 5, 0) = 30 | waits(0, 31, 5, 0) = -1 | waits(0, 0, 5, 0) = -1
        made s1; | waits(0, 30, 5, 0) = 0 | waits(0, 1, 5, 99) = 0 | made pa; | waits(1, 30, 5, 0) = 30
        waits(0, 30, 5, 99) = 0

        made s1;pa;pb;i10; | waits(0, 30, 0, 0) = 30 | waits(1, 30, 0, 0) = 0 | waits(0, 1, 0, 1) = 0
        waits(1, 1, 0, 1) = 1 | waits(1, 30, 0, 1) = 30 | waits(0, 2, 1, 38) = 2 | waits(0, 3, 1, 38) = 2
        waits(1, 3, 1, 38) = 1
        """);
    refusals(27, "WAITS. -1.", """
        waits(-1, 1, 0, 0) = -1 | waits(8, 1, 0, 0) = -1 | waits(MIN, 1, 0, 0) = -1 | waits(MAX, 1, 0, 0) = -1
        waits(0, 0, 0, 0) = -1 | waits(0, 31, 0, 0) = -1 | waits(0, -1, 0, 0) = -1 | waits(0, MIN, 0, 0) = -1
        waits(0, MAX, 0, 0) = -1 | waits(0, 1, 0, -1) = -1 | waits(0, 1, 0, 100) = -1 | waits(0, 1, 0, MIN) = -1
        waits(0, 1, 0, MAX) = -1 | waits(7, 30, MIN, 99) | waits(0, 1, MAX, 0) = 0
        """);
  }

  private static void promises28To31() {
    test(28, "LENGTH: the least HOUSES (1 .. 4) for all STREETS alike so that MOST is all PEOPLE; -4.", """
        made s4; | length() = 1 | made pa; | length() = 1 | made pb; | length() = 2 | made pc; | length() = 3 | made pd;
        length() = 4 | made pe; | length() = -4 | made s1; | length() = 3 | street(0, 0) = 4 | street(1, 0) = 1

        made s4;pa;pa; | length() = -4 | law(0, 2) | length() = 2

        made s1;s1;s1;s1;s1;pa;pb;pc;pd;pe; | length() = 1 | made pf;pg;ph; | length() = 2
        """);
    test(28, "-3: no STREETS.", "length() = -3 | made s1; | length() = 1");
    test(29, "NEWLY: how many more MOST would be with one STREET more of so many HOUSES (WAY 5, WISHES 10).", """
        newly(1) = 0 | made pa;pb;pc;pd;pe; | newly(1) = 1 | newly(4) = 4 | made s1; | newly(4) = 4 | newly(1) = 1
        made s4; | newly(1) = 0 | newly(4) = 0 | count(0) = 2

        made s1;s1;s1;s1;pa;pb;pc;pd;pe;pf; | newly(1) = 1 | newly(2) = 2 | newly(3) = 2 | made s1; | newly(1) = -2

        made s1;pa;pa;l15a; | newly(1) = 1 | law(1, 6) | newly(1) = 0
        """);
    refusals(29, "NEWLY. -1; -2: 5 STREETS.", """
        newly(0) = -1 | newly(5) = -1 | newly(-1) = -1 | newly(MIN) = -1 | newly(MAX) = -1 | newly(1) = -2
        newly(4) = -2
        """);
    test(29, "NEWLY. -1; -2: 5 STREETS.", "newly(0) = -1 | newly(5) = -1 | newly(-1) = -1 | made s1;s1;s1;s1; | newly(0) = -1 "
        + "| newly(5) = -1 | newly(1) = 0 | made s1; | newly(1) = -2 | newly(0) = -1 | newly(5) = -1");
    test(30, "BY LAW: MOST by another EACH and NEAR.", """
        byLaw(1, 0) = 0 | made s4;s4;pa;pa;pa;pa;pa;pa;pa;pa; | byLaw(1, 0) = 2 | byLaw(2, 0) = 4 | byLaw(3, 0) = 6
        byLaw(3, 5) = 6 | byLaw(3, 6) = 3 | byLaw(1, 9) = 1 | most(-1) = 2 | made y018; | byLaw(1, 8) = 2
        byLaw(1, 9) = 1
        made y019; | byLaw(1, 9) = 2 | law(2, 0) | byLaw(1, 9) = 8

        made s2;pa;paxa;pa; | law(0, 3) | byLaw(1, 0) = 2 | law(0, 3) = 3

        made s1;s1;pa;pa;y010; | law(1, 9) | most(-1) = 1 | byLaw(1, 0) = 2 | byLaw(1, 1) = 1 | byLaw(2, 9) = 2
        law(0, 3) | byLaw(1, 9) = 1 | byLaw(3, 9) = 2
        """);
    refusals(30, "BY LAW. -1.", """
        byLaw(0, 0) = -1 | byLaw(4, 0) = -1 | byLaw(-1, 0) = -1 | byLaw(MIN, 0) = -1 | byLaw(MAX, 0) = -1
        byLaw(1, -1) = -1 | byLaw(1, 10) = -1 | byLaw(1, MIN) = -1 | byLaw(1, MAX) = -1 | byLaw(0, 10) = -1
        byLaw(3, 9) | byLaw(1, 0)
        """);
    test(31, "HIDING: MOST less what it would be, if nobody hid anything.", """
        hiding() = 0 | made s4;s4;pa; | hiding() = 0 | made paxa;paxa;paxa;paxa;paxa;paxa;paxa; | hiding() = 6
        law(0, 3) | hiding() = 2 | law(2, 0) | hiding() = 0 | count(5) = 7

        made s1;s1;s1;s1;s1;paxa;pbxb;pcxc; | hiding() = 0

        made pa;paxa; | hiding() = 0
        """);
  }

  // ---- promises 32 to 34: the image, what is told

  private static void promises32To34() {
    test(32, "THE IMAGE is taken: how many PEOPLE.", """
        image() = 0 | made pa; | image() = 1 | made pb;pc;pd;pe;pf;pg;ph; | image() = 8 | restore() = 8
        """);
    test(32, "THE IMAGE: all that there is, but SHELVES (and THE IMAGE); RESTORED all is as it was then.", """
        made s1;pa; | image() = 1 | lives(0, 0) | image() = 1 | lives(0, 9) | restore() = 1 | person(0, 3) = 0
        lives(0, 9) | restore() = 1 | person(0, 3) = 0
        """);
    test(33, "THE IMAGE is RESTORED: how many PEOPLE. -3: there is none.", """
        restore() = -3 | made s1;pa; | restore() = -3 | count(1) = 1 | image() = 1 | made pb; | restore() = 1
        count(1) = 1 | restore() = 1

        image() = 0 | made s1;pa; | restore() = 0 | count(0) = 0 | count(1) = 0

        """ + FULL + """

        image() = 8 | restore() = 8 | count(1) = 8
        """);
    test(33, "when THE IMAGE is RESTORED, SHELVES stay as they are", """
        image() = 0 | keep(0, 1, 3, 4) = 0 | row(7, 2, 100) = 0 | put(7, 99, MIN) = 0 | restore() = 0 | letters(0) = 7
        element(7, 99) = -2147483648

        keep(0, 1, 3, 4) = 0 | row(7, 2, 1) = 0 | put(7, 0, 5) = 0 | image() = 0 | letters(0) = 7 | element(7, 0) = 5
        keep(0, 0, 0, 0) = 0 | keep(7, 1, 1, 0) = 0 | restore() = 0 | letters(0) = -11 | letters(7) = 3
        """);
    test(33, "RESTORED all is as it was then", """
        made s1;s2;pab;pbt0xb;w01 33;y017;l24ab;i01; | image() = 2 | keep(0, 1, 7, 0) = 0 | lives(0, 9) = 1
        move(0) = 1
        made s4;pat1;w01 2;y011;l10;i10; | restore() = 2 | count(0) = 2 | count(1) = 2 | count(2) = 3 | count(4) = 1
        count(5) = 1 | wish(0, 1) = 33 | way(0, 1) = 7 | person(0, 1) = 0 | person(0, 3) = 1 | person(1, 3) = -4
        law(0, 1) = 2 | law(1, 0) = 4 | law(2, 0) = 3
        """);
    test(34, "0 STREETS, 1 PEOPLE, 2 all HOUSES, 3 how many live in STREETS, 4 with a TIE, 5 who hide something; -1 for others.",
        """
        count(-1) = -1 | count(6) = -1 | count(MIN) = -1 | count(MAX) = -1 | count(0) = 0 | count(1) = 0 | count(2) = 0
        count(3) = 0 | count(4) = 0 | count(5) = 0

        made s4;s4;s4;s4;s4;paxa;pat0xa;pat0xa;pat0xa;pat0xa;pat0xa;pat0xa;pat0xa;
        made i00;i10;i21;i31;i42;i52;i63;i74;
        count(0) = 5 | count(1) = 8 | count(2) = 20 | count(3) = 8 | count(4) = 7 | count(5) = 8

        made s1;s3;pa;pat0;pbxb;i21; | count(0) = 2 | count(1) = 3 | count(2) = 4 | count(3) = 1 | count(4) = 1
        count(5) = 1
        """);
    refusals(34, "5 who hide something; -1 for others.",
        "count(-1) = -1 | count(6) = -1 | count(MIN) = -1 | count(MAX) = -1");
  }

  // ---- promises 35 to 39: shelves, rows

  private static void promise35() {
    test(35, "what = 0 nothing (the others do not matter); 1 a MOVE of KIND k; wot: 100 WHO, 10 OTHER and TO: 0. -1.", """
        keep(0, 0, MIN, MAX) = 0 | letters(0) = -11 | keep(7, 0, -1, -1) = 0 | keep(0, 1, 0, 0) = 0 | letters(0) = 1
        keep(7, 1, 7, 999) = 0 | letters(7) = 12 | keep(7, 0, 8, 1000) = 0 | letters(7) = -11

        keep(0, 1, 3, 999) = 0 | letters(0) = 12 | toss(0) = 9 | keep(0, 1, 5, 999) = 0 | letters(0) = 13
        toss(0) = 109
        keep(0, 1, 5, 109) = 0 | letters(0) = 4 | toss(0) = 101 | keep(0, 1, 3, 190) = 0 | letters(0) = 3 | toss(0) = 1

        row(0, 0, 1) = 0 | keep(0, 1, 1, 100) = 0 | element(0, 0) = IllegalStateException | letters(0) = 3
        row(0, 0, 1) = 0 | letters(0) = -12 | element(0, 0) = 0 | keep(0, 0, 0, 0) = 0 | letters(0) = -11
        """);
    test(35, "MOVES are of KINDS: 0 MOVE; 1 ONE under MOVE; 2 SWAP under MOVE", """
        keep(0, 1, -1, 0) = -1 | keep(0, 1, 0, 0) = 0 | keep(0, 1, 7, 0) = 0 | keep(0, 1, 8, 0) = -1 | letters(0) = 3
        """);
    refusals(35, "wot: 100 WHO, 10 OTHER and TO: 0. -1.", """
        keep(-1, 0, 0, 0) = -1 | keep(8, 0, 0, 0) = -1 | keep(MIN, 1, 0, 0) = -1 | keep(MAX, 1, 0, 0) = -1
        keep(0, -1, 0, 0) = -1 | keep(0, 2, 0, 0) = -1 | keep(1, 2, 0, 0) = -1 | keep(4, MIN, 0, 0) = -1
        keep(4, MAX, 0, 0) = -1 | keep(0, 1, -1, 0) = -1 | keep(0, 1, 8, 0) = -1 | keep(4, 1, MIN, 0) = -1
        keep(4, 1, MAX, 0) = -1 | keep(0, 1, 0, -1) = -1 | keep(0, 1, 0, 1000) = -1 | keep(1, 1, 0, 1000) = -1
        keep(4, 1, 0, MIN) = -1 | keep(4, 1, 0, MAX) = -1
        """);
  }

  private static void promise36() {
    test(36, "A ROW has a SORT (0 bytes, 1 shorts, 2 ints) and 0 .. 100 elements, 0 at first", """
        row(0, 0, 0) = 0 | element(0, 0) = IllegalStateException | put(0, 0, 1) = -13 | letters(0) = -12

        row(0, 2, 100) = 0 | element(0, 0) = 0 | element(0, 99) = 0 | put(0, 99, 5) = 0 | put(0, 0, 6) = 0
        put(0, 100, 5) = -13 | element(0, 100) = IllegalStateException | row(0, 2, 101) = -1 | element(0, 99) = 5
        row(0, 2, 100) = 0 | element(0, 99) = 0 | element(0, 0) = 0

        row(0, 2, 3) = 0 | put(0, 2, 70000) = 0 | row(0, 1, 2) = 0 | put(0, 2, 1) = -13 | row(0, 0, 3) = 0
        element(0, 2) = 0 | row(0, -1, 1) = -1 | row(0, 3, 1) = -1

        row(0, 0, 1) = 0 | row(1, 1, 1) = 0 | row(2, 2, 1) = 0 | put(0, 0, 65536) = 0 | put(1, 0, 65536) = 0
        put(2, 0, 65536) = 0 | element(0, 0) = 0 | element(1, 0) = 0 | element(2, 0) = 65536
        """);
    refusals(36, "SHELF d gets a ROW of a SORT: 0. -1 (n above 100); -14.", """
        row(-1, 0, 1) = -1 | row(8, 0, 1) = -1 | row(MIN, 0, 1) = -1 | row(MAX, 0, 1) = -1 | row(0, -1, 1) = -1
        row(0, 3, 1) = -1 | row(1, MIN, 1) = -1 | row(1, MAX, 1) = -1 | row(1, 0, 101) = -1 | row(4, 2, 101) = -1
        row(0, 0, MAX) = -1 | row(1, 0, -1) = -14 | row(4, 1, -1) = -14 | row(0, 2, MIN) = -14
        """);
  }

  private static void promises37To38() {
    test(37, "what is put in keeps its lowest bits", """
        row(0, 0, 1) = 0 | put(0, 0, 127) = 0 | element(0, 0) = 127 | put(0, 0, 128) = 0 | element(0, 0) = -128
        put(0, 0, -128) = 0 | element(0, 0) = -128 | put(0, 0, -129) = 0 | element(0, 0) = 127 | put(0, 0, 255) = 0
        element(0, 0) = -1 | put(0, 0, 256) = 0 | element(0, 0) = 0 | put(0, 0, MAX) = 0 | element(0, 0) = -1
        put(0, 0, MIN) = 0 | element(0, 0) = 0

        row(0, 1, 1) = 0 | put(0, 0, 32767) = 0 | element(0, 0) = 32767 | put(0, 0, 32768) = 0 | element(0, 0) = -32768
        put(0, 0, -32768) = 0 | element(0, 0) = -32768 | put(0, 0, -32769) = 0 | element(0, 0) = 32767
        put(0, 0, 65535) = 0 | element(0, 0) = -1 | put(0, 0, 65536) = 0 | element(0, 0) = 0 | put(0, 0, 128) = 0
        element(0, 0) = 128 | put(0, 0, MAX) = 0 | element(0, 0) = -1 | put(0, 0, MIN) = 0 | element(0, 0) = 0

        row(0, 2, 1) = 0 | put(0, 0, MAX) = 0 | element(0, 0) = 2147483647 | put(0, 0, MIN) = 0
        element(0, 0) = -2147483648 | put(0, 0, 65536) = 0 | element(0, 0) = 65536 | put(0, 0, -1) = 0
        element(0, 0) = -1
        """);
    test(37, "Element i of the ROW becomes v: 0.", """
        row(0, 2, 3) = 0 | put(0, 0, 5) = 0 | put(0, 2, 7) = 0 | put(0, 3, 8) = -13 | put(0, -1, 8) = -13
        element(0, 0) = 5 | element(0, 1) = 0 | element(0, 2) = 7

        row(0, 2, 1) = 0 | row(1, 2, 1) = 0 | row(7, 2, 1) = 0 | put(7, 0, 9) = 0 | element(0, 0) = 0
        element(1, 0) = 0
        """);
    refusals(37, "-1, -11, -12, -13.", """
        put(-1, 0, 1) = -1 | put(8, 0, 1) = -1 | put(MIN, 0, 1) = -1 | put(MAX, 0, 1) = -1 | put(4, 0, 1) = -11
        put(0, 0, 1) = -12 | put(5, 0, 1) = -12 | put(1, -1, 1) = -13 | put(1, 3, 1) = -13 | put(2, 2, 1) = -13
        put(3, MIN, 1) = -13 | put(3, MAX, 1) = -13 | put(4, -1, 1) = -11 | put(0, -1, 1) = -12 | put(8, -1, 1) = -1
        put(1, 100, 1) = -13
        """);
    refusals(38, "IllegalArgumentException: no such SHELF; IllegalStateException: no ROW, no such place.", """
        element(-1, 0) = IllegalArgumentException | element(8, 0) = IllegalArgumentException
        element(MIN, MIN) = IllegalArgumentException | element(MAX, MAX) = IllegalArgumentException
        element(8, -1) = IllegalArgumentException | element(4, 0) = IllegalStateException
        element(0, 0) = IllegalStateException | element(5, 0) = IllegalStateException
        element(1, -1) = IllegalStateException
        element(1, 3) = IllegalStateException | element(2, 2) = IllegalStateException
        element(3, MIN) = IllegalStateException
        element(3, MAX) = IllegalStateException | element(1, 100) = IllegalStateException
        element(1, 0) = 3 | element(1, 2) = 5 | element(2, 1) = 700 | element(3, 0) = 70000 | element(3, 1) = 0
        """);
    test(38, "Element i of the ROW.", """
        element(0, 0) = IllegalStateException | row(0, 2, 1) = 0 | element(0, 0) = 0
        element(0, 1) = IllegalStateException
        keep(0, 0, 0, 0) = 0 | element(0, 0) = IllegalStateException
        """);
  }

  private static void promise39() {
    String five = "row(0, 1, 5) | put(0, 0, 10) | put(0, 1, 11) | put(0, 2, 12) | put(0, 3, 13) | put(0, 4, 14) | row(1, 1, 3)";
    lines(39, "n elements of the ROW in SHELF d from i on come to that in SHELF e from j on: n.", five, """
        copy(0, 0, 1, 0, 0) = 0 | element(1, 0) = 0 | element(1, 2) = 0
        copy(0, 4, 1, 2, 1) = 1 | element(1, 2) = 14 | element(1, 1) = 0 | element(1, 0) = 0
        copy(0, 2, 1, 0, 3) = 3 | element(1, 0) = 12 | element(1, 1) = 13 | element(1, 2) = 14 | element(0, 2) = 12
        copy(0, 3, 1, 0, 3) = -13 | copy(0, 2, 1, 1, 3) = -13 | copy(0, 1, 1, 0, 4) = -13
        copy(0, 5, 1, 3, 0) = 0 | copy(0, 6, 1, 3, 0) = -13 | copy(0, 5, 1, 4, 0) = -13 | copy(0, 5, 1, 0, 1) = -13
        copy(0, 0, 1, 3, 1) = -13 | copy(0, 0, 1, 2, 1) = 1 | element(1, 2) = 10
        copy(0, 0, 0, 0, 5) = 5 | element(0, 0) = 10 | element(0, 4) = 14
        copy(0, 0, 0, 1, 4) = 4 | element(0, 0) = 10 | element(0, 1) = 10 | element(0, 2) = 11 | element(0, 4) = 13
        copy(0, 1, 0, 0, 4) = 4 | element(0, 0) = 11 | element(0, 1) = 12 | element(0, 3) = 14 | element(0, 4) = 14
        """);
    refusals(39, "-1, -11 (either), -12 (no ROWS of one SORT), -13 (n below 0, too).", """
        copy(-1, 0, 1, 0, 1) = -1 | copy(8, 0, 1, 0, 1) = -1 | copy(1, 0, -1, 0, 1) = -1 | copy(1, 0, 8, 0, 1) = -1
        copy(MIN, 0, 1, 0, 1) = -1 | copy(1, 0, MAX, 0, 1) = -1 | copy(4, 0, 1, 0, 1) = -11 | copy(1, 0, 4, 0, 1) = -11
        copy(4, 0, 4, 0, 0) = -11 | copy(0, 0, 4, 0, 1) = -11 | copy(4, 0, 0, 0, 1) = -11 | copy(0, 0, 1, 0, 1) = -12
        copy(1, 0, 0, 0, 1) = -12 | copy(0, 0, 0, 0, 0) = -12 | copy(1, 0, 2, 0, 1) = -12 | copy(2, 0, 3, 0, 1) = -12
        copy(3, 0, 1, 0, 1) = -12 | copy(1, 0, 1, 0, -1) = -13 | copy(1, 0, 1, 0, 4) = -13 | copy(1, -1, 1, 0, 1) = -13
        copy(1, 0, 1, -1, 1) = -13 | copy(1, 3, 1, 0, 1) = -13 | copy(1, 0, 1, 3, 1) = -13 | copy(1, 0, 1, 0, MIN) = -13
        copy(1, 0, 1, 0, MAX) = -13 | copy(1, 1, 1, 1, MAX) = -13 | copy(1, MAX, 1, 0, 1) = -13
        copy(1, MIN, 1, 0, 1) = -13
        copy(1, 0, 1, MAX, MAX) = -13 | copy(1, 0, 1, MIN, MIN) = -13 | copy(1, MAX, 1, MAX, 2) = -13
        copy(1, 0, 4, 0, -1) = -11 | copy(1, 0, 2, 0, -1) = -12 | copy(8, 0, 4, 0, -1) = -1 | copy(4, 0, 8, 0, 0) = -1
        """);
  }

  // ---- promises 40 and 41: letters, failures

  private static void promise40() {
    test(40, "LETTERS of a KIND: MOVE 1; ONE a MOVE's and 2; SWAP a MOVE's times 4; CHAIN a ONE's and TO; WAIT twice a ONE's; "
        + "PAIR a SWAP's and OTHER; TOLD a MOVE's less 1; HIDDEN a ONE's and WHO.", """
        keep(0, 1, 0, 999) | letters(0) = 1 | keep(0, 1, 1, 999) | letters(0) = 3 | keep(0, 1, 2, 999) | letters(0) = 4
        keep(0, 1, 3, 999) | letters(0) = 12 | keep(0, 1, 4, 999) | letters(0) = 6 | keep(0, 1, 5, 999)
        letters(0) = 13
        keep(0, 1, 6, 999) | letters(0) = 0 | keep(0, 1, 7, 999) | letters(0) = 12

        keep(0, 1, 0, 0) | letters(0) = 1 | keep(0, 1, 1, 0) | letters(0) = 3 | keep(0, 1, 2, 0) | letters(0) = 4
        keep(0, 1, 3, 0) | letters(0) = 3 | keep(0, 1, 4, 0) | letters(0) = 6 | keep(0, 1, 5, 0) | letters(0) = 4
        keep(0, 1, 6, 0) | letters(0) = 0 | keep(0, 1, 7, 0) | letters(0) = 3

        keep(0, 1, 3, 990) | letters(0) = 3 | keep(0, 1, 3, 1) | letters(0) = 4 | keep(0, 1, 5, 909) | letters(0) = 4
        keep(0, 1, 5, 10) | letters(0) = 5 | keep(0, 1, 7, 99) | letters(0) = 3 | keep(0, 1, 7, 100) | letters(0) = 4
        """);
    refusals(40, "-1, -11, -12 (a ROW).", """
        letters(-1) = -1 | letters(8) = -1 | letters(MIN) = -1 | letters(MAX) = -1 | letters(4) = -11 | letters(1) = -12
        letters(2) = -12 | letters(3) = -12 | letters(7) = -12 | letters(0) = 3
        """);
  }

  private static void promise41() {
    test(41, "its WHO; of PAIR ones 100 more; of HIDDEN ones 200 plus their LETTERS, in place of all that (its WHO, too).", """
        keep(0, 1, 0, 900) | toss(0) = 9 | keep(0, 1, 1, 900) | toss(0) = 9 | keep(0, 1, 2, 900) | toss(0) = 9
        keep(0, 1, 3, 900) | toss(0) = 9 | keep(0, 1, 4, 900) | toss(0) = 9 | keep(0, 1, 5, 900) | toss(0) = 109
        keep(0, 1, 7, 900) | toss(0) = 212

        keep(0, 1, 0, 199) | toss(0) = 1 | keep(0, 1, 1, 199) | toss(0) = 1 | keep(0, 1, 2, 199) | toss(0) = 1
        keep(0, 1, 3, 199) | toss(0) = 1 | keep(0, 1, 4, 199) | toss(0) = 1 | keep(0, 1, 5, 199) | toss(0) = 101
        keep(0, 1, 7, 199) | toss(0) = 204
        """);
    test(41, "-15: TOLD ones, and any with WHO 0, have none.", """
        keep(0, 1, 6, 0) | toss(0) = -15 | keep(0, 1, 6, 100) | toss(0) = -15 | keep(0, 1, 6, 999) | toss(0) = -15

        keep(0, 1, 0, 99) | toss(0) = -15 | keep(0, 1, 1, 99) | toss(0) = -15 | keep(0, 1, 2, 99) | toss(0) = -15
        keep(0, 1, 3, 99) | toss(0) = -15 | keep(0, 1, 4, 99) | toss(0) = -15 | keep(0, 1, 5, 99) | toss(0) = -15
        keep(0, 1, 7, 99) | toss(0) = -15
        """);
    refusals(41, "-1, -11, -12 (a ROW); -15: TOLD ones, and any with WHO 0, have none.", """
        toss(-1) = -1 | toss(8) = -1 | toss(MIN) = -1 | toss(MAX) = -1 | toss(4) = -11 | toss(1) = -12 | toss(2) = -12
        toss(3) = -12 | toss(7) = -12 | toss(0) = 1 | toss(5) = 103 | toss(6) = 209
        """);
  }

  // ---- what is said of all refusals

  private static void refusalsOfTowns() {
    test(29, "-2 no room", "made s1;s1;s1;s1; | newly(1) = 0 | made s1; | newly(1) = -2");
    test(14, "-3 it can't be as things stand", """
        restore() = -3 | length() = -3 | made s1;pa;i00; | length() = 1 | keep(0, 1, 1, 0) | move(0) = -3 | image() = 1
        restore() = 1
        """);
    test(15, "JUDGED by the ROW in SHELF d; -4.", "judge = -4 | made pa; | judge 0 9 = -4 | judge 0 0 = 0 | judge 0 9 0 = 3");
    test(22, "-4 none", """
        made s1;pa;pa;pa; | person(0, 2) = -4 | person(0, 3) = -4 | firstUnlawful() = -4 | most(1) = -4 | best(1) = -4
        found(1) = -4 | learn(0) = -4 | walk(0, 0) = -4 | judge = -4 | length() = -4 | lives(0, 0) = 9 | person(0, 3) = 0
        where(1) = -4 | shortest(-1) = -4 | shortest(0) = -4 | walk(0, 0) = 0 | learn(0) = 1 | where(0) = 0

        made s2;pa;pa;pa;l20; | most(1) = 0 | most(2) = -4 | best(1) = 0 | best(2) = -4 | found(1) = 0 | found(2) = -4
        lives(2, 0) | lives(1, 0) | lives(0, 0) | firstUnlawful() = 0 | where(0) = -4 | where(2) = -4 | lives(2, 9)
        where(1) = 0 | where(2) = -4
        """);
  }

  private static void refusalsOfShelves() {
    String ahead = "keep(0, 1, 1, 100) | row(1, 0, 2) | row(2, 1, 2)";
    String nothing = "-11 nothing is held where something is wanted";
    lines(2, nothing, ahead, "town(3) = -11 | wanted(3, 0) = -11 | wanted(3, 1) = -11 | move(3) = -11 | judge(3) = -11\n"
        + "put(3, 0, 1) = -11 | copy(1, 0, 3, 0, 1) = -11 | copy(3, 0, 1, 0, 1) = -11 | letters(3) = -11 | toss(3) = -11\n"
        + "keep(1, 0, 0, 0) = 0 | town(1) = -11 | judge(1) = -11 | put(1, 0, 1) = -11 | copy(1, 0, 1, 0, 0) = -11\n"
        + "keep(0, 0, 0, 0) = 0 | letters(0) = -11 | toss(0) = -11 | move(0) = -11 | wanted(0, 0) = -11\n");
    String other = "-12 it is of another kind";
    lines(2, other, ahead, "town(0) = -12 | town(2) = -12 | judge(0) = -12 | judge(2) = -12 | put(0, 0, 1) = -12\n"
        + "wanted(1, 0) = -12 | move(1) = -12 | letters(1) = -12 | toss(1) = -12 | copy(1, 0, 2, 0, 1) = -12\n"
        + "copy(0, 0, 1, 0, 1) = -12 | copy(1, 0, 0, 0, 1) = -12 | copy(2, 0, 1, 0, 0) = -12 | copy(1, 0, 1, 1, 1) = 1\n"
        + "keep(1, 1, 0, 0) = 0 | town(1) = -12 | judge(1) = -12 | put(1, 0, 1) = -12 | row(0, 0, 0) = 0 | letters(0) = -12\n");
    lines(37, "-13 a place that isn't there (a number that isn't as told, too)", ahead, """
        put(1, 1, 5) = 0 | put(1, 2, 5) = -13 | put(1, -1, 5) = -13 | copy(1, 0, 1, 0, 2) = 2
        copy(1, 0, 1, 0, 3) = -13
        copy(1, 0, 1, 0, -1) = -13 | wanted(0, 0) = -13 | move(0) = -13
        """);
    test(36, "-14 a size below 0", "row(0, 0, -1) = -14 | row(0, 0, MIN) = -14 | row(0, 0, 0) = 0 | row(0, 0, 1) = 0");
    test(41, "-15 a FAILURE that is none", """
        keep(0, 1, 1, 0) | toss(0) = -15 | keep(0, 1, 1, 100) | toss(0) = 1 | keep(0, 1, 6, 100) | toss(0) = -15
        """);
    test(15, "The ROW that is read, and what is taken from a SHELF, stay there", """
        made s1;pa; | judge 0 0 0 9 = -4 | judge(6) = -4 | element(6, 0) = 0 | element(6, 3) = 9 | put(6, 4, 0) = -13
        keep(0, 1, 1, 0) | wanted(0, 0) = 1 | move(0) = 1 | letters(0) = 3 | toss(0) = -15 | move(0) = -3 | lives(0, 9)
        move(0) = 1 | row(1, 0, 2) | row(2, 0, 2) | put(1, 0, 7) | copy(1, 0, 2, 1, 1) = 1 | element(1, 0) = 7
        element(1, 1) = 0 | element(2, 1) = 7
        """);
  }

  private static void severalRefusals() {
    String several = "Answers of several refusals are the first one as they are told at the call";
    test(29, several, "made s1;s1;s1;s1;s1; | newly(0) = -1 | newly(5) = -1 | newly(1) = -2");
    refusals(36, several, "row(8, 0, -1) = -1 | row(0, 3, -1) = -1 | row(0, -1, MIN) = -1 | row(0, 0, -1) = -14");
    refusals(37, several, "put(8, -1, 0) = -1 | put(4, -1, 0) = -11 | put(0, -1, 0) = -12 | put(1, -1, 0) = -13");
    refusals(39, several, """
        copy(8, 0, 4, 0, -1) = -1 | copy(4, 0, 8, 0, -1) = -1 | copy(4, 0, 0, 0, -1) = -11 | copy(0, 0, 4, 0, -1) = -11
        copy(0, 0, 1, 0, -1) = -12 | copy(1, 0, 2, -1, -1) = -12 | copy(1, 0, 1, 0, -1) = -13
        """);
    refusals(13, several,
        "wanted(8, 2) = -1 | wanted(4, 2) = -1 | wanted(1, -1) = -1 | wanted(4, 0) = -11 | wanted(1, 0) = -12");
    test(14, several, "keep(0, 1, 0, 0) | move(0) = -13 | move(8) = -1 | move(1) = -11 | made pa; | move(0) = -3");
    refusals(38, several, "element(8, 200) = IllegalArgumentException | element(-1, -1) = IllegalArgumentException");
    test(41, several, "keep(0, 1, 6, 0) | toss(0) = -15 | toss(8) = -1 | toss(1) = -11 | row(2, 0, 0) | toss(2) = -12");
    test(2, several, "row(2, 1, 0) | town(8) = -1 | town(3) = -11 | town(2) = -12 | row(2, 0, 0) | town(2) = -1000");
  }

  /** Where there is something of everything: each call that only tells. */
  private static void tellingCalls() {
    String what = "how many are done; the LIVING then (in mind).";
    refusals(19, what, "found(-1) | found(0) | found(7) | stable() | shortest(-1) | shortest(0) | judge(1) = 3");
    refusals(26, "from a seed z (in mind)",
        "years(30, 5, 50, 0) | years(30, 5, 50, 1) | waits(0, 30, 5, 50) | waits(7, 1, 5, 99)");
    refusals(16, "MOST (person -1); the STREET of one in that LIVING (-4: NONE).",
        "most(-1) | most(0) | best(-1) | best(7)");
    refusals(28, "LENGTH; -4.", "length() | byLaw(1, 9) | byLaw(3, 0) | hiding() | newly(1) = -2 | newly(0) = -1");
    refusals(29, "NEWLY. -1; -2: 5 STREETS.", "restore() = 8 | newly(4) = -2 | law(1, 9) = 5 | byLaw(1, 0) | hiding()");
    refusals(22, "WHERE; -4.",
        "where(0) = 4 | where(7) = 1 | learn(0) | learn(7) | learn(6) = -4 | walk(4, 7) = 0 | walk(0, 6) = -4");
    refusals(13, "Whether the MOVE in SHELF d is WANTED (what 0), MAY be (1): 1, 0.",
        "wanted(0, 0) = 1 | wanted(0, 1) = 0 | wanted(5, 0) = 0 | wanted(6, 0) = 1 | wanted(6, 1) = 1 | letters(6) | toss(6)");
    refusals(11, "WORTH of the LIVING.",
        "worth() | worthIn(0, 4) = 105 | lawful() = 1 | firstUnlawful() = -4 | alone() = 5 | price(0, 0)");
    test(29, "with one STREET more of so many HOUSES",
        "made s1;pa;pb; | image() = 2 | made s2; | newly(4) = 0 | newly(1) = 0");
  }

  /** One behind the other where there is something of everything: each call that could change it, but is refused. */
  private static void refusedChanges() {
    String changes = "A refused call changes nothing.";
    refusals(2, changes,
        "town s1; = -2000 | town(7) = -2000 | town(1) = -1000 | town(0) = -12 | town(4) = -11 | town(8) = -1");
    refusals(2, changes, "town l10;w00 5;y010;i11;pa; = -2019");
    refusals(2, changes, "town l10;w00 5;y010;i11;z = -1019");
    refusals(7, changes, "law(0, 4) = -1 | law(1, 10) = -1 | law(2, 256) = -1 | law(3, 1) = -1");
    refusals(8, changes, "lives(0, 5) = -1 | lives(8, 0) = -1 | lives(5, 8) = -1");
    refusals(14, changes, "move(0) = -3 | move(5) = -3 | move(1) = -12 | move(4) = -11 | move(8) = -1");
    test(33, changes,
        "made s1;pa;i00; | keep(0, 1, 1, 0) | row(1, 2, 1) | restore() = -3 | person(0, 3) = 0 | letters(0) = 3");
    refusals(35, changes,
        "keep(0, 2, 0, 0) = -1 | keep(1, 1, 8, 0) = -1 | keep(4, 1, 0, 1000) = -1 | keep(0, 1, 0, -1) = -1");
    refusals(36, changes, "row(0, 0, 101) = -1 | row(1, 0, -1) = -14 | row(1, 3, 1) = -1 | row(4, 0, 101) = -1");
    refusals(37, changes, "put(1, 3, 1) = -13 | put(0, 0, 1) = -12 | put(4, 0, 1) = -11 | put(1, -1, 1) = -13");
    refusals(39, changes, "copy(1, 0, 7, 0, 4) = -13 | copy(7, 0, 1, 0, 4) = -13 | copy(7, 0, 1, 2, 2) = -13 | copy(7, 85, 1, 0, 2)"
        + " = -13 | copy(1, 0, 2, 0, 1) = -12 | copy(1, 0, 4, 0, 1) = -11");
    label = changes;
    if (watched < 1500) {
      fail("only " + watched + " calls were watched");
    }
  }

  // ---- whether the tests tell of each promise, range and refusal

  private static void checkPromises() {
    Matcher m = Pattern.compile("## Promise (\\d+): (\\w+)\\s+`[^`]*`:([^#]*)").matcher(document.replace("\n", " "));
    int promises = 1;
    while (m.find()) {
      promises++;
      int promise = Integer.parseInt(m.group(1));
      label = "promise " + promise;
      if (SENTENCES.getOrDefault(promise, 0) == 0) {
        fail("no sentence of it is tested");
      }
      Matcher refusal = Pattern.compile("-\\d+|Illegal\\w+").matcher(m.group(3));
      while (refusal.find()) {
        boolean isAsked = refusal.group().equals("-1") && m.group(3).contains("(person -1)") && !m.group(3).contains(". -1");
        if (!isAsked && !ANSWERED.contains(promise + " " + m.group(2) + " " + refusal.group())) {
          fail("no test in which " + m.group(2) + " answers " + refusal.group());
        }
      }
    }
    label = "the document";
    if (promises != 41) {
      fail(promises + " promises were found");
    }
  }

  private static void checkRanges() {
    label = "the document";
    Matcher m = Pattern.compile("\\d \\.\\. \\d+|[a-z] \\.\\. [a-z]").matcher(document);
    while (m.find()) {
      if (!RANGES.contains(m.group())) {
        fail("no test of a sentence with " + m.group());
      }
    }
  }

  /** A call that doesn't end is a fault too, and must not keep .ci/run waiting. */
  private static void failIfItNeverEnds() {
    Thread guard = new Thread(() -> {
      try {
        Thread.sleep(MOST_SECONDS * 1000L);
      } catch (InterruptedException e) {
        return;
      }
      System.out.println(label + ": no end within " + MOST_SECONDS + " seconds");
      Runtime.getRuntime().halt(1);
    });
    guard.setDaemon(true);
    guard.start();
  }

  public static void main(String[] args) throws IOException {
    failIfItNeverEnds();
    document = plain(Files.readString(DOCUMENT));
    for (Method m : OneEach.class.getMethods()) {
      if (m.getDeclaringClass() == OneEach.class) {
        FACE.put(m.getName(), m);
      }
    }
    promise01();
    promise02Numbers();
    promise02Form();
    promise02Faults();
    promises03To06();
    promises07To08();
    promises09To10();
    promises11To12();
    promise13Worth();
    promise13Kinds();
    promise13There();
    promise14();
    promise15();
    promise16();
    promise17();
    promises18To19();
    promise20();
    promises21To22();
    promises23To25();
    promise26();
    promise27();
    promises28To31();
    promises32To34();
    promise35();
    promise36();
    promises37To38();
    promise39();
    promise40();
    promise41();
    refusalsOfTowns();
    refusalsOfShelves();
    severalRefusals();
    tellingCalls();
    refusedChanges();
    checkPromises();
    checkRanges();
    System.out.println(wrong == 0
        ? asked + " answers are as due, " + watched + " calls changed nothing" : wrong + " answers or sentences are wrong");
    if (wrong != 0) {
      System.exit(1);
    }
  }
}
