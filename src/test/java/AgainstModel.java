import java.util.ArrayList;
import java.util.Arrays;
import java.util.List;
import java.util.regex.Matcher;
import java.util.regex.Pattern;

/**
 * Runs of calls drawn by fixed seeds, each answered by OneEach and by a plain model of the document: the model
 * tries every living, walks every chain and reads texts by a pattern, so it shares no way of working with OneEach.
 */
public final class AgainstModel {
  private static final int NONE = 9;

  // ---- the model

  private static final class Person {
    int crafts;
    int hides;
    int tie = -1;
    int home = NONE;
    int[] wish = new int[5];

    Person copy() {
      Person p = new Person();
      p.crafts = crafts;
      p.hides = hides;
      p.tie = tie;
      p.home = home;
      p.wish = wish.clone();
      return p;
    }
  }

  private static final class World {
    List<Integer> houses = new ArrayList<>();
    int[][] way = new int[5][5];
    List<Person> people = new ArrayList<>();
    int each = 1;
    int near = 0;
    int counts = 255;

    World copy() {
      World w = new World();
      w.houses = new ArrayList<>(houses);
      for (int i = 0; i < 5; i++) {
        w.way[i] = way[i].clone();
      }
      for (Person p : people) {
        w.people.add(p.copy());
      }
      w.each = each;
      w.near = near;
      w.counts = counts;
      return w;
    }

    boolean street(int s) {
      return s >= 0 && s < houses.size();
    }

    boolean person(int p) {
      return p >= 0 && p < people.size();
    }

    void addStreet(int n) {
      int s = houses.size();
      houses.add(n);
      for (int o = 0; o < s; o++) {
        way[s][o] = 5;
        way[o][s] = 5;
      }
      for (Person p : people) {
        p.wish[s] = 10;
      }
    }

    boolean lawIn(int s) {
      for (int c = 0; c < 8; c++) {
        int n = 0;
        for (Person p : people) {
          boolean together = p.home == s || (p.home != NONE && near > 0 && way[s][p.home] < near);
          if (together && has(p.crafts & ~p.hides & counts, c)) {
            n++;
          }
        }
        if (n > each) {
          return false;
        }
      }
      return true;
    }

    int firstUnlawful() {
      for (int s = 0; s < houses.size(); s++) {
        int n = 0;
        for (Person p : people) {
          n += p.home == s ? 1 : 0;
        }
        if (n > houses.get(s) || !lawIn(s)) {
          return s;
        }
      }
      for (Person p : people) {
        if (p.tie >= 0 && p.home != NONE && people.get(p.tie).home != NONE && people.get(p.tie).home != p.home) {
          return 9;
        }
      }
      return -4;
    }

    boolean lawful() {
      return firstUnlawful() == -4;
    }

    int worthIn(int who, int s) {
      if (s == NONE) {
        return 0;
      }
      int sum = people.get(who).wish[s];
      for (int c = 0; c < 8; c++) {
        boolean alone = has(people.get(who).crafts, c);
        for (int p = 0; p < people.size(); p++) {
          if (p != who && people.get(p).home == s && has(people.get(p).crafts, c)) {
            alone = false;
          }
        }
        sum += alone ? 3 : 0;
      }
      return sum;
    }

    int worth(int who) {
      return worthIn(who, people.get(who).home);
    }

    World done(int kind, int who, int other, int to) {
      World w = copy();
      Person p = w.people.get(who);
      int was = p.home;
      switch (kind) {
        case 1 -> p.home = to;
        case 2 -> {
          p.home = w.people.get(other).home;
          w.people.get(other).home = was;
        }
        case 3 -> {
          long there = people.stream().filter(q -> q.home == to).count();
          p.home = to;
          if (there >= houses.get(to)) {
            for (int q = 0; q < people.size(); q++) {
              if (q != who && people.get(q).home == to) {
                w.people.get(q).home = was;
                break;
              }
            }
          }
        }
        case 4 -> {
          if (people.stream().filter(q -> q.home == to).count() < houses.get(to)) {
            p.home = to;
          }
        }
        case 5 -> {
          p.home = to;
          w.people.get(other).home = to;
        }
        case 6 -> p.home = NONE;
        case 7 -> {
          p.home = to;
          p.hides = p.crafts;
        }
        default -> {
        }
      }
      return w;
    }

    boolean wanted(World after, int kind) {
      boolean any = false;
      for (int p = 0; p < people.size(); p++) {
        if (people.get(p).home != after.people.get(p).home) {
          any = true;
          if (kind != 6 && after.worth(p) <= worth(p)) {
            return false;
          }
        }
      }
      return any;
    }

    boolean open(int kind, int who, int other, int to) {
      World after = done(kind, who, other, to);
      return wanted(after, kind) && after.lawful();
    }

    int where(int who) {
      int best = -4;
      int most = -1;
      for (int s = 0; s < houses.size(); s++) {
        World w = copy();
        w.people.get(who).home = s;
        if (w.lawful() && w.worth(who) > most) {
          most = w.worth(who);
          best = s;
        }
      }
      return best;
    }

    /** All livings in order: the value of the first greatest at [8], its streets ahead of that. */
    int[] first(boolean wishes) {
      World w = copy();
      int[] best = new int[9];
      best[8] = -1;
      w.each(0, wishes, best);
      return best;
    }

    private void each(int i, boolean wishes, int[] best) {
      if (i == people.size()) {
        if (lawful()) {
          int sum = 0;
          for (Person p : people) {
            sum += p.home == NONE ? 0 : wishes ? p.wish[p.home] : 1;
          }
          if (sum > best[8]) {
            best[8] = sum;
            for (int p = 0; p < people.size(); p++) {
              best[p] = people.get(p).home;
            }
          }
        }
        return;
      }
      for (int s = 0; s <= houses.size(); s++) {
        people.get(i).home = s == houses.size() ? NONE : s;
        each(i + 1, wishes, best);
      }
    }

    int most() {
      return first(false)[8];
    }

    List<Integer> shortest() {
      for (int n = 1; n <= 3; n++) {
        List<Integer> steps = new ArrayList<>();
        if (chain(this, n, steps)) {
          return steps;
        }
      }
      return List.of();
    }

    private boolean chain(World start, int left, List<Integer> steps) {
      if (left == 0) {
        return lawful() && steps.stream().allMatch(s -> worth(s / 10) > start.worth(s / 10));
      }
      for (int who = 0; who < people.size(); who++) {
        int w = who;
        if (steps.stream().anyMatch(s -> s / 10 == w)) {
          continue;
        }
        for (int to = 0; to < houses.size(); to++) {
          World next = done(1, who, 0, to);
          if (wanted(next, 1)) {
            steps.add(10 * who + to);
            if (next.chain(start, left - 1, steps)) {
              return true;
            }
            steps.remove(steps.size() - 1);
          }
        }
      }
      return false;
    }
  }

  private static boolean has(int set, int c) {
    return (set >> c & 1) == 1;
  }

  private static final class Held {
    int kind = -1;
    int wot;
    int sort = -1;
    int[] row;

    boolean isMove() {
      return row == null;
    }
  }

  private static final class Model {
    private static final String SET = "a?b?c?d?e?f?g?h?";
    private static final Pattern TOWN = Pattern.compile("(s\\d;|y\\d\\d\\d;|p(?=[a-h])" + SET
        + "(t\\d)?(x(?=[a-h])" + SET + ")?;|w\\d\\d (0|[1-9]\\d?);|l\\d\\d" + SET + ";|i\\d\\d;)+");
    World w = new World();
    World image = null;
    Held[] shelves = new Held[8];

    private int refusal(int d, boolean move, boolean bytes) {
      if (d < 0 || d > 7) {
        return -1;
      }
      if (shelves[d] == null) {
        return -11;
      }
      if (shelves[d].isMove() != move || (bytes && shelves[d].sort != 0)) {
        return -12;
      }
      return 0;
    }

    int town(int d) {
      int refusal = refusal(d, false, true);
      if (refusal != 0) {
        return refusal;
      }
      StringBuilder b = new StringBuilder();
      for (int v : shelves[d].row) {
        b.append((char) (v & 255));
      }
      String text = b.toString();
      for (int n = 1; n <= text.length(); n++) {
        Matcher m = TOWN.matcher(text.substring(0, n));
        if (!m.matches() && !m.hitEnd()) {
          return -1000 - (n - 1);
        }
      }
      if (!TOWN.matcher(text).matches()) {
        return -1000 - text.length();
      }
      World next = w.copy();
      int at = 0;
      int n = 0;
      for (String s : text.split(";")) {
        if (!statement(next, s)) {
          return -2000 - at;
        }
        at += s.length() + 1;
        n++;
      }
      w = next;
      return n;
    }

    private static int set(String letters) {
      int set = 0;
      for (char c : letters.toCharArray()) {
        set |= 1 << (c - 'a');
      }
      return set;
    }

    private static boolean statement(World t, String s) {
      int a = s.length() > 1 ? s.charAt(1) - '0' : 0;
      int b = s.length() > 2 ? s.charAt(2) - '0' : 0;
      switch (s.charAt(0)) {
        case 's':
          if (a < 1 || a > 4 || t.houses.size() == 5) {
            return false;
          }
          t.addStreet(a);
          return true;
        case 'y':
          if (!t.street(a) || !t.street(b) || a == b) {
            return false;
          }
          t.way[a][b] = s.charAt(3) - '0';
          t.way[b][a] = s.charAt(3) - '0';
          return true;
        case 'p':
          Person p = new Person();
          Arrays.fill(p.wish, 10);
          String[] hidden = s.substring(1).split("x");
          String[] tied = hidden[0].split("t");
          p.crafts = set(tied[0]);
          p.tie = tied.length > 1 ? Integer.parseInt(tied[1]) : -1;
          p.hides = hidden.length > 1 ? set(hidden[1]) : 0;
          if (t.people.size() == 8 || p.tie >= t.people.size() || (p.hides | p.crafts) != p.crafts) {
            return false;
          }
          t.people.add(p);
          return true;
        case 'w':
          if (!t.person(a) || !t.street(b)) {
            return false;
          }
          t.people.get(a).wish[b] = Integer.parseInt(s.substring(4));
          return true;
        case 'l':
          if (a < 1 || a > 3) {
            return false;
          }
          t.each = a;
          t.near = b;
          t.counts = set(s.substring(3));
          return true;
        default:
          if (!t.person(a) || !t.street(b)) {
            return false;
          }
          t.people.get(a).home = b;
          return true;
      }
    }

    int street(int s, int what) {
      if (!w.street(s) || what < 0 || what > 3) {
        return -1;
      }
      int n = 0;
      int all = 0;
      int shown = 0;
      for (Person p : w.people) {
        if (p.home == s) {
          n++;
          all |= p.crafts;
          shown |= p.crafts & ~p.hides;
        }
      }
      return what == 0 ? w.houses.get(s) : what == 1 ? n : what == 2 ? all : shown;
    }

    int way(int a, int b) {
      return !w.street(a) || !w.street(b) ? -1 : a == b ? 0 : w.way[a][b];
    }

    int person(int p, int what) {
      if (!w.person(p) || what < 0 || what > 4) {
        return -1;
      }
      Person q = w.people.get(p);
      return switch (what) {
        case 0 -> q.crafts;
        case 1 -> q.hides;
        case 2 -> q.tie < 0 ? -4 : q.tie;
        case 3 -> q.home == NONE ? -4 : q.home;
        default -> w.worth(p);
      };
    }

    int wish(int p, int s) {
      return !w.person(p) || !w.street(s) ? -1 : w.people.get(p).wish[s];
    }

    int law(int what, int n) {
      int was;
      if (what == 0 && n >= 1 && n <= 3) {
        was = w.each;
        w.each = n;
      } else if (what == 1 && n >= 0 && n <= 9) {
        was = w.near;
        w.near = n;
      } else if (what == 2 && n >= 0 && n <= 255) {
        was = w.counts;
        w.counts = n;
      } else {
        return -1;
      }
      return was;
    }

    int lives(int p, int s) {
      if (!w.person(p) || (s != NONE && !w.street(s))) {
        return -1;
      }
      int was = w.people.get(p).home;
      w.people.get(p).home = s;
      return was;
    }

    int worth() {
      int sum = 0;
      for (int p = 0; p < w.people.size(); p++) {
        sum += w.worth(p);
      }
      return sum;
    }

    int worthIn(int p, int s) {
      return !w.person(p) || !w.street(s) ? -1 : w.worthIn(p, s);
    }

    private int doable(int d) {
      int refusal = refusal(d, true, false);
      if (refusal != 0) {
        return refusal;
      }
      Held h = shelves[d];
      boolean there = w.person(h.wot / 100);
      if (h.kind == 2 || h.kind == 5) {
        there &= w.person(h.wot / 10 % 10);
      }
      if (h.kind == 1 || h.kind == 3 || h.kind == 4 || h.kind == 5 || h.kind == 7) {
        there &= w.street(h.wot % 10);
      }
      return there ? 0 : -13;
    }

    private World after(Held h) {
      return w.done(h.kind, h.wot / 100, h.wot / 10 % 10, h.wot % 10);
    }

    int wanted(int d, int what) {
      if (what != 0 && what != 1) {
        return -1;
      }
      int refusal = doable(d);
      if (refusal != 0) {
        return refusal;
      }
      World after = after(shelves[d]);
      return (what == 0 ? w.wanted(after, shelves[d].kind) : after.lawful()) ? 1 : 0;
    }

    int move(int d) {
      int refusal = doable(d);
      if (refusal != 0) {
        return refusal;
      }
      World after = after(shelves[d]);
      if (!w.wanted(after, shelves[d].kind) || !after.lawful()) {
        return -3;
      }
      int n = 0;
      for (int p = 0; p < w.people.size(); p++) {
        n += w.people.get(p).home != after.people.get(p).home ? 1 : 0;
      }
      w = after;
      return n;
    }

    int judge(int d) {
      int refusal = refusal(d, false, true);
      if (refusal != 0) {
        return refusal;
      }
      int[] row = shelves[d].row;
      World t = w;
      for (int i = 0; i < row.length / 2; i++) {
        int who = row[2 * i];
        int to = row[2 * i + 1];
        if (!t.person(who) || (to != NONE && !t.street(to))) {
          return 2 * i;
        }
        World next = t.done(1, who, 0, to);
        if ((to != NONE && !t.wanted(next, 1)) || !next.lawful()) {
          return 2 * i;
        }
        t = next;
      }
      return row.length % 2 == 0 ? -4 : row.length;
    }

    int first(int p, boolean wishes) {
      if (p != -1 && !w.person(p)) {
        return -1;
      }
      int[] best = w.first(wishes);
      return p == -1 ? best[8] : best[p] == NONE ? -4 : best[p];
    }

    int stable() {
      for (int who = 0; who < w.people.size(); who++) {
        for (int to = 0; to < w.houses.size(); to++) {
          if (w.open(1, who, 0, to) || w.open(3, who, 0, to)) {
            return 0;
          }
        }
        for (int other = 0; other < w.people.size(); other++) {
          if (w.open(2, who, other, 0)) {
            return 0;
          }
        }
      }
      return 1;
    }

    int found(int p) {
      if (p != -1 && !w.person(p)) {
        return -1;
      }
      World t = w;
      int n = 0;
      boolean more = true;
      while (n < 40 && more) {
        more = false;
        for (int i = 0; i < t.people.size() * t.houses.size() && !more; i++) {
          int who = i / t.houses.size();
          int to = i % t.houses.size();
          if (t.open(1, who, 0, to)) {
            t = t.done(1, who, 0, to);
            more = true;
            n++;
          }
        }
      }
      return p == -1 ? n : t.people.get(p).home == NONE ? -4 : t.people.get(p).home;
    }

    int shortest(int i) {
      if (i < -1) {
        return -1;
      }
      List<Integer> steps = w.shortest();
      if (steps.isEmpty() || i >= steps.size()) {
        return -4;
      }
      return i == -1 ? steps.size() : steps.get(i);
    }

    int learn(int p) {
      if (!w.person(p)) {
        return -1;
      }
      if (w.people.get(p).home == NONE) {
        return -4;
      }
      int best = -4;
      int most = -1;
      for (int c = 7; c >= 0; c--) {
        if (has(w.people.get(p).crafts, c)) {
          continue;
        }
        World t = w.copy();
        t.people.get(p).crafts |= 1 << c;
        boolean holds = true;
        for (int s = 0; s < t.houses.size(); s++) {
          holds &= t.lawIn(s);
        }
        if (holds && t.worth(p) >= most) {
          most = t.worth(p);
          best = c;
        }
      }
      return best;
    }

    int where(int p) {
      return w.person(p) ? w.where(p) : -1;
    }

    private int with(int s, int c) {
      int n = 0;
      for (Person p : w.people) {
        n += p.home == s && has(p.crafts, c) ? 1 : 0;
      }
      return n;
    }

    int walk(int s, int c) {
      if (!w.street(s) || c < 0 || c > 7) {
        return -1;
      }
      int best = -4;
      for (int o = 0; o < w.houses.size(); o++) {
        if (with(o, c) > 0 && (best == -4 || way(s, o) < best)) {
          best = way(s, o);
        }
        if (o == s && with(o, c) > 0) {
          return 0;
        }
      }
      return best;
    }

    int price(int s, int c) {
      if (!w.street(s) || c < 0 || c > 7) {
        return -1;
      }
      if (with(s, c) == 0) {
        return 0;
      }
      int more = 20;
      boolean any = false;
      for (int o = 0; o < w.houses.size(); o++) {
        if (o != s && with(o, c) > 0) {
          more = any ? Math.min(more, 2 * way(s, o)) : 2 * way(s, o);
          any = true;
        }
      }
      return Math.max(0, 10 + more - 5 * (with(s, c) - 1));
    }

    int alone() {
      int n = 0;
      for (int c = 0; c < 8; c++) {
        int have = 0;
        for (Person p : w.people) {
          have += p.home != NONE && has(p.crafts, c) ? 1 : 0;
        }
        n += have == 1 ? 1 : 0;
      }
      return n;
    }

    /** In none at the end, went to none, then the waits of each. */
    private int[] live(int n, int z, int death) {
      World t = w.copy();
      int[] told = new int[10];
      for (int y = 0; y < n; y++) {
        for (Person p : t.people) {
          if (p.home != NONE) {
            z = (int) ((z * 1103515245L + 12345L) & 0xFFFFFFFFL);
            if (((z & 0x7FFFFFFFL) / 65536L) % 100L < death) {
              p.home = NONE;
              told[1]++;
            }
          }
        }
        for (int p = 0; p < t.people.size(); p++) {
          if (t.people.get(p).home == NONE && t.where(p) != -4) {
            t.people.get(p).home = t.where(p);
          }
        }
        for (int p = 0; p < t.people.size(); p++) {
          told[2 + p] += t.people.get(p).home == NONE ? 1 : 0;
        }
      }
      for (Person p : t.people) {
        told[0] += p.home == NONE ? 1 : 0;
      }
      return told;
    }

    int years(int n, int z, int death, int what) {
      if (n < 1 || n > 30 || death < 0 || death > 99 || what < 0 || what > 1) {
        return -1;
      }
      return live(n, z, death)[what];
    }

    int waits(int p, int n, int z, int death) {
      if (!w.person(p) || n < 1 || n > 30 || death < 0 || death > 99) {
        return -1;
      }
      return live(n, z, death)[2 + p];
    }

    int length() {
      if (w.houses.isEmpty()) {
        return -3;
      }
      for (int h = 1; h <= 4; h++) {
        World t = w.copy();
        for (int s = 0; s < t.houses.size(); s++) {
          t.houses.set(s, h);
        }
        if (t.most() == t.people.size()) {
          return h;
        }
      }
      return -4;
    }

    int newly(int h) {
      if (h < 1 || h > 4) {
        return -1;
      }
      if (w.houses.size() == 5) {
        return -2;
      }
      World t = w.copy();
      t.addStreet(h);
      return t.most() - w.most();
    }

    int byLaw(int each, int near) {
      if (each < 1 || each > 3 || near < 0 || near > 9) {
        return -1;
      }
      World t = w.copy();
      t.each = each;
      t.near = near;
      return t.most();
    }

    int hiding() {
      World t = w.copy();
      for (Person p : t.people) {
        p.hides = 0;
      }
      return w.most() - t.most();
    }

    int image() {
      image = w.copy();
      return w.people.size();
    }

    int restore() {
      if (image == null) {
        return -3;
      }
      w = image.copy();
      return w.people.size();
    }

    int count(int what) {
      int n = 0;
      for (Person p : w.people) {
        n += what == 3 && p.home != NONE || what == 4 && p.tie >= 0 || what == 5 && p.hides != 0 ? 1 : 0;
      }
      return switch (what) {
        case 0 -> w.houses.size();
        case 1 -> w.people.size();
        case 2 -> w.houses.stream().mapToInt(h -> h).sum();
        case 3, 4, 5 -> n;
        default -> -1;
      };
    }

    int keep(int d, int what, int k, int wot) {
      if (d < 0 || d > 7 || what < 0 || what > 1 || (what == 1 && (k < 0 || k > 7 || wot < 0 || wot > 999))) {
        return -1;
      }
      shelves[d] = null;
      if (what == 1) {
        shelves[d] = new Held();
        shelves[d].kind = k;
        shelves[d].wot = wot;
      }
      return 0;
    }

    int row(int d, int sort, int n) {
      if (d < 0 || d > 7 || sort < 0 || sort > 2 || n > 100) {
        return -1;
      }
      if (n < 0) {
        return -14;
      }
      shelves[d] = new Held();
      shelves[d].sort = sort;
      shelves[d].row = new int[n];
      return 0;
    }

    int put(int d, int i, int v) {
      int refusal = refusal(d, false, false);
      if (refusal != 0) {
        return refusal;
      }
      Held h = shelves[d];
      if (i < 0 || i >= h.row.length) {
        return -13;
      }
      h.row[i] = h.sort == 0 ? (byte) v : h.sort == 1 ? (short) v : v;
      return 0;
    }

    long element(int d, int i) {
      if (d < 0 || d > 7) {
        return IAE;
      }
      if (shelves[d] == null || shelves[d].isMove() || i < 0 || i >= shelves[d].row.length) {
        return ISE;
      }
      return shelves[d].row[i];
    }

    int copy(int d, int i, int e, int j, int n) {
      if (d < 0 || d > 7 || e < 0 || e > 7) {
        return -1;
      }
      if (shelves[d] == null || shelves[e] == null) {
        return -11;
      }
      if (shelves[d].isMove() || shelves[e].isMove() || shelves[d].sort != shelves[e].sort) {
        return -12;
      }
      int[] from = shelves[d].row.clone();
      int[] to = shelves[e].row;
      if (i < 0 || j < 0 || n < 0 || (long) i + n > from.length || (long) j + n > to.length) {
        return -13;
      }
      for (int k = 0; k < n; k++) {
        to[j + k] = from[i + k];
      }
      return n;
    }

    int letters(int d) {
      int refusal = refusal(d, true, false);
      if (refusal != 0) {
        return refusal;
      }
      int wot = shelves[d].wot;
      return new int[] {1, 3, 4, 3 + wot % 10, 6, 4 + wot / 10 % 10, 0, 3 + wot / 100}[shelves[d].kind];
    }

    int toss(int d) {
      int refusal = refusal(d, true, false);
      if (refusal != 0) {
        return refusal;
      }
      int kind = shelves[d].kind;
      int who = shelves[d].wot / 100;
      return kind == 6 || who == 0 ? -15 : kind == 5 ? 100 + who : kind == 7 ? 200 + letters(d) : who;
    }
  }

  // ---- drawing runs of calls

  private static final long IAE = Long.MIN_VALUE;
  private static final long ISE = Long.MIN_VALUE + 1;
  private static final int ROUNDS = 36;
  private static final int MOST_CALLS = 512;
  /** What the dearest round asks, a text of a hundred bytes. */
  private static final int CALLS_OF_A_ROUND = 102;

  private static long state;
  private static int wrong = 0;
  private static long asked = 0;

  private static int draw(int below) {
    state = state * 6364136223846793005L + 1442695040888963407L;
    return (int) ((state >>> 33) % below);
  }

  private static int wild(int below) {
    switch (draw(24)) {
      case 0:
        return -1;
      case 1:
        return below;
      case 2:
        return draw(2) == 0 ? Integer.MIN_VALUE : Integer.MAX_VALUE;
      default:
        return draw(below);
    }
  }

  private static int near(int size) {
    return wild(draw(12) == 0 ? 9 : Math.max(1, size));
  }

  private static long elementOf(OneEach x, int d, int i) {
    try {
      return x.element(d, i);
    } catch (IllegalArgumentException e) {
      return IAE;
    } catch (IllegalStateException e) {
      return ISE;
    }
  }

  private static String letters(int set) {
    StringBuilder b = new StringBuilder();
    for (int c = 0; c < 8; c++) {
      if (has(set, c)) {
        b.append((char) ('a' + c));
      }
    }
    return b.toString();
  }

  private static int someCrafts(int kinds) {
    int set = 1 << draw(kinds);
    while (draw(3) == 0) {
      set |= 1 << draw(kinds);
    }
    return set;
  }

  private static String person(int people, int kinds) {
    int set = someCrafts(kinds);
    StringBuilder b = new StringBuilder("p").append(letters(set));
    if (people > 0 && draw(3) == 0) {
      b.append('t').append(draw(people));
    }
    int hidden = draw(4) == 0 ? someCrafts(8) & set : 0;
    if (hidden != 0) {
      b.append('x').append(letters(hidden));
    }
    return b.append(';').toString();
  }

  /** Statements for a town of so many streets and people, most of them as they should be. */
  private static String text(int streets, int people, int kinds) {
    StringBuilder b = new StringBuilder();
    for (int s = 0; s < streets; s++) {
      b.append('s').append(1 + draw(4)).append(';');
    }
    for (int p = 0; p < people; p++) {
      b.append(person(p, kinds));
    }
    int more = draw(12);
    for (int m = 0; m < more; m++) {
      int p = draw(Math.max(1, people));
      int s = draw(Math.max(1, streets));
      switch (draw(6)) {
        case 0, 1 -> b.append('w').append(p).append(s).append(' ').append(draw(draw(2) == 0 ? 100 : 20)).append(';');
        case 2, 3 -> b.append('i').append(p).append(s).append(';');
        case 4 -> b.append('y').append(s).append(draw(Math.max(1, streets))).append(draw(10)).append(';');
        default -> b.append('l').append(1 + draw(3)).append(draw(2) == 0 ? 0 : draw(10))
            .append(letters(draw(256))).append(';');
      }
    }
    return b.toString();
  }

  private static String spoilt(String text) {
    StringBuilder b = new StringBuilder(text);
    String signs = "sypwli;txabh0159 ";
    int n = 1 + draw(2);
    for (int i = 0; i < n && b.length() > 0; i++) {
      int at = draw(b.length());
      switch (draw(3)) {
        case 0 -> b.deleteCharAt(at);
        case 1 -> b.setCharAt(at, signs.charAt(draw(signs.length())));
        default -> b.insert(at, signs.charAt(draw(signs.length())));
      }
    }
    return b.toString();
  }

  private static void same(int run, String call, long got, long want) {
    asked++;
    if (got != want && ++wrong <= 20) {
      System.out.println("run " + run + ": " + call + " answered " + got + ", the model says " + want);
    }
  }

  private static void give(int run, OneEach x, Model m, int d, String text) {
    int n = Math.min(100, text.length());
    same(run, "row", x.row(d, 0, n), m.row(d, 0, n));
    for (int i = 0; i < n; i++) {
      same(run, "put", x.put(d, i, text.charAt(i)), m.put(d, i, text.charAt(i)));
    }
    same(run, "town of " + text, x.town(d), m.town(d));
  }

  private static void giveMoves(OneEach x, Model m, int run) {
    int d = draw(8);
    int n = draw(8);
    same(run, "row", x.row(d, 0, n), m.row(d, 0, n));
    for (int i = 0; i < n; i++) {
      int v = i % 2 == 0 ? near(m.w.people.size()) : draw(4) == 0 ? NONE : near(m.w.houses.size());
      same(run, "put", x.put(d, i, v), m.put(d, i, v));
    }
    same(run, "judge", x.judge(d), m.judge(d));
  }

  private static void callTown(OneEach x, Model m, int run, int which) {
    int p = near(m.w.people.size());
    int s = near(m.w.houses.size());
    int a = wild(6);
    switch (which) {
      case 0 -> same(run, "street", x.street(s, a), m.street(s, a));
      case 1 -> same(run, "way", x.way(s, a), m.way(s, a));
      case 2 -> same(run, "person", x.person(p, a), m.person(p, a));
      case 3 -> same(run, "wish", x.wish(p, s), m.wish(p, s));
      case 4 -> {
        int what = wild(3);
        int n = what == 2 ? wild(256) : what == 1 ? wild(10) : wild(5);
        same(run, "law " + what + " " + n, x.law(what, n), m.law(what, n));
      }
      case 5, 6, 7, 8 -> {
        int to = draw(5) == 0 ? NONE : s;
        same(run, "lives", x.lives(p, to), m.lives(p, to));
      }
      case 9 -> same(run, "lawful", x.lawful(), m.w.lawful() ? 1 : 0);
      case 10 -> same(run, "firstUnlawful", x.firstUnlawful(), m.w.firstUnlawful());
      case 11 -> same(run, "worth", x.worth(), m.worth());
      case 12 -> same(run, "worthIn", x.worthIn(p, s), m.worthIn(p, s));
      case 13 -> same(run, "learn", x.learn(p), m.learn(p));
      case 14 -> same(run, "where", x.where(p), m.where(p));
      case 15 -> {
        int c = wild(8);
        same(run, "walk", x.walk(s, c), m.walk(s, c));
      }
      case 16 -> {
        int c = wild(8);
        same(run, "price", x.price(s, c), m.price(s, c));
      }
      case 17 -> same(run, "alone", x.alone(), m.alone());
      default -> same(run, "count", x.count(a), m.count(a));
    }
  }

  private static void callMove(OneEach x, Model m, int run) {
    int d = wild(8);
    int kind = wild(8);
    int wot = draw(15) == 0 ? wild(1000)
        : 100 * draw(Math.max(1, m.w.people.size())) + 10 * draw(Math.max(1, m.w.people.size()))
            + draw(Math.max(1, m.w.houses.size()));
    int what = draw(12) == 0 ? wild(3) : 1;
    same(run, "keep", x.keep(d, what, kind, wot), m.keep(d, what, kind, wot));
    if (draw(8) == 0) {
      d = draw(8);
    }
    String told = " of kind " + kind + " " + wot;
    same(run, "wanted 0" + told, x.wanted(d, 0), m.wanted(d, 0));
    same(run, "wanted 1" + told, x.wanted(d, 1), m.wanted(d, 1));
    int a = wild(2);
    same(run, "wanted " + a, x.wanted(d, a), m.wanted(d, a));
    same(run, "letters", x.letters(d), m.letters(d));
    same(run, "toss", x.toss(d), m.toss(d));
    same(run, "move" + told, x.move(d), m.move(d));
  }

  private static void callShelf(OneEach x, Model m, int run) {
    int d = wild(8);
    int e = draw(3) == 0 ? wild(8) : d;
    int i = wild(12);
    int j = wild(12);
    int n = wild(8);
    int v = draw(2) == 0 ? draw(300) - 150 : (int) (state >>> 20);
    int sort = wild(3);
    switch (draw(7)) {
      case 0, 1 -> {
        int size = draw(10) == 0 ? 99 + draw(4) : draw(10) == 0 ? -draw(3) : wild(12);
        same(run, "row", x.row(d, sort, size), m.row(d, sort, size));
      }
      case 2, 3 -> same(run, "put", x.put(d, i, v), m.put(d, i, v));
      case 4 -> same(run, "copy", x.copy(d, i, e, j, n), m.copy(d, i, e, j, n));
      case 5 -> same(run, "town", x.town(d), m.town(d));
      default -> same(run, "judge", x.judge(d), m.judge(d));
    }
    same(run, "element", elementOf(x, d, i), m.element(d, i));
    same(run, "element", elementOf(x, e, j), m.element(e, j));
    same(run, "letters", x.letters(d), m.letters(d));
  }

  private static void callSearch(OneEach x, Model m, int run, int which) {
    int p = draw(3) == 0 ? -1 : near(m.w.people.size());
    int n = draw(15) == 0 ? wild(32) : 1 + draw(30);
    int z = (int) (state >>> 16);
    int death = draw(15) == 0 ? 98 + draw(4) : draw(100);
    int a = wild(5);
    int b = wild(10);
    switch (which) {
      case 0 -> same(run, "most " + p, x.most(p), m.first(p, false));
      case 1 -> same(run, "best " + p, x.best(p), m.first(p, true));
      case 2 -> same(run, "stable", x.stable(), m.stable());
      case 3 -> same(run, "found " + p, x.found(p), m.found(p));
      case 4 -> {
        for (int i = -2; i < 6; i++) {
          same(run, "shortest " + i, x.shortest(i), m.shortest(i));
        }
      }
      case 5 -> same(run, "years", x.years(n, z, death, a % 3), m.years(n, z, death, a % 3));
      case 6 -> same(run, "waits", x.waits(p, n, z, death), m.waits(p, n, z, death));
      case 7 -> same(run, "length", x.length(), m.length());
      case 8 -> same(run, "newly", x.newly(a), m.newly(a));
      case 9 -> same(run, "byLaw", x.byLaw(a, b), m.byLaw(a, b));
      case 10 -> same(run, "hiding", x.hiding(), m.hiding());
      case 11 -> same(run, "image", x.image(), m.image());
      default -> same(run, "restore", x.restore(), m.restore());
    }
  }

  private static void oneRun(int run, int streets, int people) {
    state = run * 2654435761L + 99;
    OneEach x = new OneEach();
    Model m = new Model();
    long before = asked;
    int kinds = 2 + draw(7);
    give(run, x, m, draw(8), text(streets, people, kinds));
    give(run, x, m, draw(8), spoilt(text(draw(2), draw(2), 8)));
    for (int round = 0; round < ROUNDS && asked - before + CALLS_OF_A_ROUND <= MOST_CALLS; round++) {
      int which = draw(20);
      if (which < 7) {
        callTown(x, m, run, draw(20));
      } else if (which < 11) {
        callMove(x, m, run);
      } else if (which < 14) {
        callSearch(x, m, run, draw(13));
      } else if (which < 16) {
        callShelf(x, m, run);
      } else if (which < 17) {
        giveMoves(x, m, run);
      } else if (which < 18 && m.w.people.size() < 5 && m.w.houses.size() < 4) {
        give(run, x, m, draw(8), text(draw(2), draw(2), 8));
      }
    }
    for (int i = 0; i < 100 && asked - before < MOST_CALLS; i++) {
      same(run, "element", elementOf(x, 0, i), m.element(0, i));
    }
  }

  public static void main(String[] args) {
    int runs = args.length > 0 ? Integer.parseInt(args[0]) : 4000;
    int base = args.length > 1 ? Integer.parseInt(args[1]) : 0;
    for (int run = base; run < base + runs; run++) {
      oneRun(run, run % 5, run / 5 % 7);
    }
    for (int run = base; run < base + runs / 100; run++) {
      oneRun(1000000 + run, 3 + run % 3, 8 - run % 2);
    }
    System.out.println(wrong == 0 ? asked + " answers are as the model's" : wrong + " answers are not as the model's");
    if (wrong != 0) {
      System.exit(1);
    }
  }
}
