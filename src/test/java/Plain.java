import java.util.ArrayDeque;
import java.util.ArrayList;
import java.util.Arrays;
import java.util.HashMap;
import java.util.HashSet;
import java.util.List;
import java.util.Map;
import java.util.Set;
import java.util.TreeMap;
import java.util.regex.Matcher;
import java.util.regex.Pattern;

/**
 * The document told once more, by search through every state (a town and a paper) instead of by
 * thought: slow, and only fit for small lands. StampsCancel is compared with it.
 */
final class Plain {
  static final int NONE = -1, BAD = -2, NOT = -3, FULL = -4;

  static final class Gate {
    int a, b;
    boolean watched;
  }

  static final class Good {
    String paper;
    boolean good;
  }

  final List<List<Integer>> texts = new ArrayList<>();
  final List<Gate> gates = new ArrayList<>();
  int room = 11, landFault = NONE, shut = 0, finding = 0;
  final List<Good> listed = new ArrayList<>();
  final int[][] sheets = new int[4][];
  final int[] forms = new int[4];

  Plain() {
    for (int i = 0; i < 4; i++) texts.add(new ArrayList<>());
  }

  // ---- texts, gates

  int type(int text, int b) {
    if (text < 0 || text > 3 || b < 0 || b > 255) return BAD;
    if (texts.get(text).size() == (text == 0 ? 50 : 30)) return FULL;
    texts.get(text).add(b);
    learn();
    return texts.get(text).size();
  }

  int wipe(int text) {
    if (text < 0 || text > 3) return BAD;
    int had = texts.get(text).size();
    texts.get(text).clear();
    learn();
    return had;
  }

  String told(int text) {
    StringBuilder s = new StringBuilder();
    for (int b : texts.get(text)) s.append((char) b);
    return s.toString();
  }

  void learn() {
    gates.clear();
    room = 11;
    landFault = learnLand(told(0));
    if (landFault != NONE) {
      gates.clear();
      room = 11;
    }
  }

  int learnLand(String s) {
    if (s.isEmpty()) return NONE;
    Pattern gate = Pattern.compile("([0-7])([0-7])(u?)");
    Pattern rooms = Pattern.compile("r([0-9]{1,2})");
    int at = 0;
    while (true) {
      Matcher g = gate.matcher(s).region(at, s.length()), r = rooms.matcher(s).region(at, s.length());
      if (at < s.length() && s.charAt(at) >= '0' && s.charAt(at) <= '7' && gates.size() == 9) return at;
      if (g.lookingAt()) {
        Gate n = new Gate();
        n.a = Integer.parseInt(g.group(1));
        n.b = Integer.parseInt(g.group(2));
        n.watched = g.group(3).isEmpty();
        gates.add(n);
        at = g.end();
      } else if (r.lookingAt()) {
        int v = Integer.parseInt(r.group(1));
        if (v < 1 || v > 11) return at + 1;
        room = v;
        at = r.end();
      } else {
        boolean begun = at < s.length() && (s.charAt(at) == 'r' || s.charAt(at) >= '0' && s.charAt(at) <= '7');
        return begun ? at + 1 : at;
      }
      if (at == s.length()) return NONE;
      if (s.charAt(at) != ';') return at;
      at++;
    }
  }

  int fault(int text) {
    if (text < 0 || text > 3) return BAD;
    if (text == 0) return landFault;
    String s = told(text);
    for (int i = 0; i < s.length(); i++) if (letters().indexOf(s.charAt(i)) < 0) return i;
    return NONE;
  }

  /** All letters of gates, by their bytes. */
  String letters() {
    return "ABCDEFGHI".substring(0, gates.size()) + "abcdefghi".substring(0, gates.size());
  }

  int gate(int gate, int what) {
    if (gate < 0 || gate >= gates.size() || what < 0 || what > 3) return BAD;
    Gate g = gates.get(gate);
    return what == 0 ? g.a : what == 1 ? g.b : what == 2 ? (g.watched ? 1 : 0) : (shut >> gate & 1);
  }

  int room() {
    return room;
  }

  int shut(int gates) {
    if (gates < 0 || gates > 511) return BAD;
    int were = shut;
    shut = gates;
    return were;
  }

  // ---- letters and states

  Gate of(char c) {
    return gates.get(Character.toLowerCase(c) - 'a');
  }

  int from(char c) {
    return Character.isLowerCase(c) ? of(c).a : of(c).b;
  }

  int to(char c) {
    return Character.isLowerCase(c) ? of(c).b : of(c).a;
  }

  boolean open(char c) {
    return (shut >> Character.toLowerCase(c) - 'a' & 1) == 0;
  }

  static char other(char c) {
    return Character.isLowerCase(c) ? Character.toUpperCase(c) : Character.toLowerCase(c);
  }

  /** Pairs are struck out wherever they stand, until there is none. */
  String normal(String way) {
    StringBuilder s = new StringBuilder();
    for (char c : way.toCharArray()) if (of(c).watched) s.append(c);
    boolean more = true;
    while (more) {
      more = false;
      for (int i = 0; i + 1 < s.length() && !more; i++) {
        if (s.charAt(i) == other(s.charAt(i + 1))) {
          s.delete(i, i + 2);
          more = true;
        }
      }
    }
    return s.toString();
  }

  String paperOf(int way) {
    return way == 0 || fault(way) != NONE ? "" : normal(told(way));
  }

  /** A state is the town's figure and the paper. */
  static String state(int town, String paper) {
    return town + paper;
  }

  static int townOf(String state) {
    return state.charAt(0) - '0';
  }

  /** Where a letter leads from a state, or null; the paper may have so many stamps. */
  String next(String state, char c, int most) {
    if (!open(c) || from(c) != townOf(state)) return null;
    String held = state.substring(1);
    String paper = normal(held + c);
    if (paper.length() > held.length() && paper.length() > most) return null;
    return state(to(c), paper);
  }

  // ---- papers

  int paper(int way, int i) {
    if (way < 1 || way > 3 || i < NONE) return BAD;
    String p = paperOf(way);
    return i == NONE ? p.length() : i < p.length() ? p.charAt(i) : NONE;
  }

  int judged(int way, int town, int begins, int what) {
    if (way < 1 || way > 3 || town < 0 || town > 7 || begins < 0 || begins > 3 || what < 0 || what > 4) return BAD;
    String here = state(town, paperOf(begins)), s = fault(way) == NONE ? told(way) : "";
    int place = NONE, fullest = here.length() - 1, struck = 0;
    for (int i = 0; i < s.length() && place == NONE; i++) {
      String there = next(here, s.charAt(i), room);
      if (there == null) {
        place = i;
      } else {
        if (there.length() < here.length()) struck++;
        fullest = Math.max(fullest, there.length() - 1);
        here = there;
      }
    }
    return what == 0 ? place : what == 1 ? townOf(here) : what == 2 ? fullest : what == 3 ? here.length() - 1 : struck;
  }

  int same(int a, int b) {
    if (a < 1 || a > 3 || b < 1 || b > 3) return BAD;
    return paperOf(a).equals(paperOf(b)) ? 1 : 0;
  }

  /** By length: how many ways lead to the goal when the first do, and the least of them. */
  static final class Shortest {
    int gates = NONE;
    long ways = 0;
    String least = "";
  }

  Shortest search(int from, int a, int to, int b) {
    Shortest answer = new Shortest();
    String start = state(from, paperOf(a)), goal = state(to, paperOf(b));
    if (Math.max(start.length(), goal.length()) - 1 > room) return answer;
    Set<String> seen = new HashSet<>();
    Map<String, Shortest> layer = new HashMap<>();
    Shortest begun = new Shortest();
    begun.ways = 1;
    layer.put(start, begun);
    for (int gates = 0; !layer.isEmpty(); gates++) {
      if (layer.containsKey(goal)) {
        answer = layer.get(goal);
        answer.gates = gates;
        return answer;
      }
      seen.addAll(layer.keySet());
      layer = step(layer, seen);
    }
    return answer;
  }

  Map<String, Shortest> step(Map<String, Shortest> layer, Set<String> seen) {
    Map<String, Shortest> after = new HashMap<>();
    for (Map.Entry<String, Shortest> e : layer.entrySet()) {
      for (char c : letters().toCharArray()) {
        String there = next(e.getKey(), c, room);
        if (there == null || seen.contains(there)) continue;
        String way = e.getValue().least + c;
        Shortest s = after.computeIfAbsent(there, k -> new Shortest());
        if (s.ways == 0 && s.least.isEmpty() || way.compareTo(s.least) < 0) s.least = way;
        s.ways += e.getValue().ways;
      }
    }
    return after;
  }

  static boolean ends(int from, int a, int to, int b) {
    return from >= 0 && from < 8 && a >= 0 && a < 4 && to >= 0 && to < 8 && b >= 0 && b < 4;
  }

  long shortest(int from, int a, int to, int b, int what) {
    if (!ends(from, a, to, b) || what < 0 || what > 1) return Long.MIN_VALUE + 2;
    Shortest s = search(from, a, to, b);
    return what == 0 ? s.gates : s.ways;
  }

  int letter(int from, int a, int to, int b, int i) {
    if (!ends(from, a, to, b) || i < 0) return BAD;
    String least = search(from, a, to, b).least;
    return i < least.length() ? least.charAt(i) : NONE;
  }

  /** States that lie on some way from home, clean, to home, clean; with their distance from home. */
  Map<String, Integer> rounds(int home, int most) {
    String start = state(home, "");
    Map<String, Integer> out = new HashMap<>();
    Map<String, List<String>> into = new HashMap<>();
    ArrayDeque<String> queue = new ArrayDeque<>(List.of(start));
    out.put(start, 0);
    while (!queue.isEmpty()) {
      String here = queue.remove();
      for (char c : letters().toCharArray()) {
        String there = next(here, c, most);
        if (there == null) continue;
        into.computeIfAbsent(there, k -> new ArrayList<>()).add(here);
        if (out.putIfAbsent(there, out.get(here) + 1) == null) queue.add(there);
      }
    }
    Set<String> back = new HashSet<>(List.of(start));
    queue.add(start);
    while (!queue.isEmpty()) for (String s : into.getOrDefault(queue.remove(), List.of())) if (back.add(s)) queue.add(s);
    out.keySet().retainAll(back);
    return out;
  }

  int errands(int home, int towns, int what) {
    if (home < 0 || home > 7 || towns < 0 || towns > 255 || what < 0 || what > 1) return BAD;
    for (int most = 0; most <= room; most++) {
      int[] steps = new int[8];
      Arrays.fill(steps, 1000);
      rounds(home, most).forEach((s, n) -> steps[townOf(s)] = Math.min(steps[townOf(s)], n));
      int sum = 0;
      for (int t = 0; t < 8; t++) if ((towns >> t & 1) == 1) sum += steps[t];
      if (sum < 1000) return what == 0 ? most : 2 * sum;
    }
    return NONE;
  }

  int clean(int home) {
    if (home < 0 || home > 7) return BAD;
    int towns = 0;
    for (String s : rounds(home, room).keySet()) towns |= 1 << townOf(s);
    return towns;
  }

  // ---- papers that were found

  int found(int way, int what) {
    if (way < 1 || way > 3 || what < 0 || what > 1) return BAD;
    String paper = paperOf(way);
    int begun = 0, now = 0;
    for (int t = 0; t < 8; t++) {
      Set<String> seen = new HashSet<>(List.of(state(t, "")));
      ArrayDeque<String> queue = new ArrayDeque<>(seen);
      while (!queue.isEmpty()) {
        String here = queue.remove();
        if (here.substring(1).equals(paper)) {
          begun |= 1 << t;
          now |= 1 << townOf(here);
        }
        for (char c : letters().toCharArray()) {
          String there = next(here, c, paper.length() + 1);
          if (there != null && leads(there, paper) && seen.add(there)) queue.add(there);
        }
      }
    }
    return what == 0 ? begun : now;
  }

  /** Keeps the search small: papers that lie at most one stamp beside the one that was found. */
  static boolean leads(String state, String paper) {
    String held = state.substring(1);
    return paper.startsWith(held) || paper.startsWith(held.substring(0, held.length() - 1));
  }

  long many(int from, int way, int to, int n) {
    if (from < 0 || from > 7 || way < 1 || way > 3 || to < 0 || to > 7 || n < 0 || n > 12) return Long.MIN_VALUE + 2;
    Map<String, Long> layer = new TreeMap<>(Map.of(state(from, ""), 1L));
    for (int i = 0; i < n; i++) {
      Map<String, Long> after = new TreeMap<>();
      for (Map.Entry<String, Long> e : layer.entrySet()) {
        for (char c : letters().toCharArray()) {
          String there = next(e.getKey(), c, 1000);
          if (there != null) after.merge(there, e.getValue(), Long::sum);
        }
      }
      layer = after;
    }
    return layer.getOrDefault(state(to, paperOf(way)), 0L);
  }

  // ---- clerks

  int list(int way, int good) {
    if (way < 1 || way > 3 || good < 0 || good > 1) return BAD;
    if (listed.size() == 12) return FULL;
    add(paperOf(way), good == 1);
    return listed.size();
  }

  void add(String paper, boolean good) {
    Good g = new Good();
    g.paper = paper;
    g.good = good;
    listed.add(g);
  }

  int read(int s) {
    if (s < 0 || s > 3) return BAD;
    if (sheets[s] == null) return find(1);
    StringBuilder all = new StringBuilder();
    for (int v : sheets[s]) all.append(v > 0 && v < 256 && letters().indexOf(v) >= 0 ? (char) v : '.');
    int n = 0;
    for (String row : all.toString().split("\\.", -1)) {
      if (listed.size() < 12) {
        add(normal(row), true);
        n++;
      }
    }
    return n;
  }

  int unlist() {
    if (listed.isEmpty()) return NOT;
    listed.remove(listed.size() - 1);
    return listed.size();
  }

  int listed(int k, int what) {
    if (k < 0 || k >= listed.size() || what < NONE || what > 10) return BAD;
    String p = listed.get(k).paper;
    return what == NONE ? p.length() : what < p.length() ? p.charAt(what) : NONE;
  }

  /** What a clerk sees of a paper. */
  static String seen(String paper, int places) {
    StringBuilder s = new StringBuilder();
    for (int i = 0; i < 11; i++) if ((places >> i & 1) == 1) s.append(i < paper.length() ? paper.charAt(i) : '-');
    return s.toString();
  }

  boolean letsBy(String paper, int places) {
    for (Good g : listed) if (g.good && seen(g.paper, places).equals(seen(paper, places))) return true;
    return false;
  }

  int lets(int way, int places) {
    if (way < 1 || way > 3 || places < 0 || places > 2047) return BAD;
    return letsBy(paperOf(way), places) ? 1 : 0;
  }

  int slips(int places) {
    if (places < 0 || places > 2047) return BAD;
    int n = 0;
    for (Good g : listed) if (!g.good && letsBy(g.paper, places)) n++;
    return n;
  }

  int fewest() {
    for (int size = 0; size <= 11; size++) {
      for (int places = 0; places < 2048; places++) {
        if (Integer.bitCount(places) == size && slips(places) == 0) return places;
      }
    }
    return NONE;
  }

  // ---- changes

  int[][] apart(int shutThen, int a, int b) {
    int[][] d = new int[8][8];
    for (int[] row : d) Arrays.fill(row, 1000);
    for (int g = 0; g < gates.size(); g++) {
      if ((shutThen >> g & 1) == 0) d[gates.get(g).a][gates.get(g).b] = d[gates.get(g).b][gates.get(g).a] = 1;
    }
    if (a >= 0) d[a][b] = d[b][a] = 1;
    for (int t = 0; t < 8; t++) d[t][t] = 0;
    for (int k = 0; k < 8; k++) {
      for (int i = 0; i < 8; i++) for (int j = 0; j < 8; j++) d[i][j] = Math.min(d[i][j], d[i][k] + d[k][j]);
    }
    return d;
  }

  int far(int from, int to) {
    if (from < 0 || from > 7 || to < 0 || to > 7) return BAD;
    int d = apart(shut, -1, -1)[from][to];
    return d >= 1000 ? NONE : d;
  }

  int change(int[][] then, int what) {
    int[][] now = apart(shut, -1, -1);
    int pairs = 0, most = 0;
    for (int i = 0; i < 8; i++) {
      for (int j = 0; j < i; j++) {
        int n = Math.min(now[i][j], 1000), t = Math.min(then[i][j], 1000);
        if (n != t) pairs++;
        if (n < 1000 && t < 1000) most = Math.max(most, Math.abs(n - t));
      }
    }
    return what == 0 ? pairs : most;
  }

  int without(int gate, int what) {
    if (gate < 0 || gate >= gates.size() || what < 0 || what > 1) return BAD;
    return change(apart(shut | 1 << gate, -1, -1), what);
  }

  int with(int a, int b, int what) {
    if (a < 0 || a > 7 || b < 0 || b > 7 || what < 0 || what > 1) return BAD;
    return change(apart(shut, a, b), what);
  }

  // ---- sheets

  int find(int number) {
    finding = number;
    return -10 - number;
  }

  static int cut(int form, int v) {
    return form == 0 ? (byte) v : form == 1 ? (short) v : v;
  }

  int sheet(int s, int form, int n) {
    if (s < 0 || s > 3 || form < 0 || form > 2 || n > 60) return BAD;
    if (n < 0) return find(5);
    sheets[s] = new int[n];
    forms[s] = form;
    return n;
  }

  int lose(int s) {
    if (s < 0 || s > 3) return BAD;
    if (sheets[s] == null) return find(1);
    int had = sheets[s].length;
    sheets[s] = null;
    return had;
  }

  int wrong(int s, int form, int i) {
    return sheets[s] == null ? 1 : forms[s] != form ? 3 : i < 0 || i >= sheets[s].length ? 2 : 0;
  }

  int lay(int s, int form, int i, int v) {
    if (s < 0 || s > 3 || form < 0 || form > 2) return BAD;
    if (wrong(s, form, i) != 0) return find(wrong(s, form, i));
    sheets[s][i] = cut(form, v);
    return 1;
  }

  int get(int s, int form, int i) {
    if (s < 0 || s > 3 || form < 0 || form > 2) return Integer.MIN_VALUE;
    if (wrong(s, form, i) != 0) {
      find(wrong(s, form, i));
      return Integer.MIN_VALUE;
    }
    return sheets[s][i];
  }

  int copy(int s, int i, int t, int j, int n) {
    if (s < 0 || s > 3 || t < 0 || t > 3) return BAD;
    if (sheets[s] == null || sheets[t] == null) return find(1);
    if (forms[s] != forms[t]) return find(4);
    if (i < 0 || j < 0 || n < 0 || (long) i + n > sheets[s].length || (long) j + n > sheets[t].length) return find(2);
    int[] were = sheets[s].clone();
    for (int k = 0; k < n; k++) sheets[t][j + k] = were[i + k];
    return 1;
  }

  int write(int way, int s) {
    if (way < 1 || way > 3 || s < 0 || s > 3) return BAD;
    if (sheets[s] == null) return find(1);
    int n = 0;
    for (char c : paperOf(way).toCharArray()) if (n < sheets[s].length) sheets[s][n++] = cut(forms[s], c);
    return n;
  }

  int count(int what) {
    if (what < 0 || what > 8) return BAD;
    int n = 0;
    if (what == 1) for (Gate g : gates) n += g.watched ? 1 : 0;
    if (what == 7) for (Good g : listed) n += g.good ? 1 : 0;
    return what == 0 ? gates.size() : what == 1 || what == 7 ? n : what == 6 ? listed.size() : what == 8 ? finding
        : texts.get(what - 2).size();
  }

  long digest() {
    List<Long> all = new ArrayList<>();
    for (int i = 0; i < 8; i++) all.add((long) count(i));
    for (int i = 0; i < 4; i++) all.add((long) fault(i));
    all.add((long) room());
    for (int g = 0; g < gates.size(); g++) {
      for (int i = 0; i < 4; i++) all.add((long) gate(g, i));
      for (int i = 0; i < 2; i++) all.add((long) without(g, i));
    }
    for (int w = 1; w < 4; w++) {
      all.add((long) paper(w, NONE));
      for (char c : paperOf(w).toCharArray()) all.add((long) c);
      for (int i = 0; i < 5; i++) all.add((long) judged(w, 0, 0, i));
      for (int i = 0; i < 2; i++) all.add((long) found(w, i));
      int there = judged(w, 0, 0, 1);
      for (int i = 0; i < 2; i++) all.add(shortest(0, 0, there, w, i));
      all.add(many(0, w, there, 6));
    }
    all.add((long) same(1, 2));
    for (int t = 0; t < 8; t++) {
      all.add((long) clean(t));
      all.add((long) far(0, t));
      for (int i = 0; i < 2; i++) all.add((long) errands(0, 1 << t, i));
    }
    all.add((long) slips(7));
    all.add((long) fewest());
    long h = 17;
    for (long v : all) h = 31 * h + v;
    return h;
  }
}
