import java.util.function.IntSupplier;

/** A SortedPages whose calls are counted and told, for the tests of the edges; what is not as due is printed. */
final class Pages {
  static final int BAD = -1, STATE = -2, FULL = -3, NONE = -9;
  static final int LOWEST = Integer.MIN_VALUE, HIGHEST = Integer.MAX_VALUE;
  /** The document says nothing of an object's later calls. */
  private static final int MOST_CALLS = 512;

  private static String sentence = "";
  private static String told = "";
  private static int wrong = 0;
  private static int sentences = 0;

  private final SortedPages x = new SortedPages();
  private int calls = 0;

  // ---- what is due

  static void sentence(String words) {
    sentence = words;
    sentences++;
  }

  private static void fault(String text) {
    wrong++;
    System.out.println("'" + sentence + "': " + text);
  }

  static void due(long got, long want) {
    if (got != want) fault(told + " answered " + got + ", due is " + want);
  }

  static void end() {
    System.out.println(sentences + " sentences, " + (wrong == 0 ? "all answers are as due" : wrong + " answers are not as due"));
    if (wrong != 0) System.exit(1);
  }

  /** Refused with this answer, and nothing changes. */
  void refused(int want, IntSupplier call) {
    String before = state();
    due(call.getAsInt(), want);
    dueState(before);
  }

  /** All that can be seen of the pages, of how they hang together, of the text's length and of the counters. */
  String state() {
    return digest() + " levels " + count(1) + " root " + count(2) + " times " + times(0) + " " + times(1) + " " + times(2) + " " + times(3);
  }

  void dueState(String before) {
    String call = told;
    String after = state();
    if (!after.equals(before)) fault(call + " has changed " + before + " to " + after);
  }

  void dueCounts(int... want) {
    for (int what = 0; what < want.length; what++) due(count(what), want[what]);
  }

  void dueTimes(int... want) {
    for (int what = 0; what < want.length; what++) due(times(what), want[what]);
  }

  /** Every byte of a leaf: the number behind next is its byte 2. */
  void dueLeaf(int p, int next, String entries) {
    duePage(p, 1, next, entries);
  }

  void dueInner(int p, int first, String entries) {
    duePage(p, 2, first, entries);
  }

  void dueFree(int p) {
    duePage(p, 0, 0, "");
  }

  private void duePage(int p, int sort, int link, String entries) {
    int[] want = new int[64];
    want[0] = sort;
    want[2] = link;
    int at = 3;
    for (String entry : entries.isEmpty() ? new String[0] : entries.split(" ")) {
      String[] parts = entry.split("=");
      want[at++] = parts[0].length();
      for (char c : parts[0].toCharArray()) want[at++] = c;
      want[at++] = Integer.parseInt(parts[1]);
      want[1]++;
    }
    boolean same = true;
    for (int i = 0; i < 64; i++) same &= byteAt(p, i) == want[i];
    if (!same) fault("page " + p + " has " + pageText(p) + ", due is sort " + sort + ", byte 2 " + link + ": " + entries);
    due(page(p, 0), sort);
    due(page(p, 1), want[1]);
    due(page(p, 2), link);
    due(page(p, 3), sort == 0 ? 0 : at);
  }

  private String pageText(int p) {
    StringBuilder text = new StringBuilder("sort " + x.byteAt(p, 0) + ", byte 2 " + x.byteAt(p, 2) + ":");
    int at = 3;
    for (int i = 0; i < x.byteAt(p, 1) && at < 64; i++) {
      int letters = x.byteAt(p, at);
      text.append(' ');
      for (int j = 1; j <= letters; j++) text.append((char) x.byteAt(p, at + j));
      text.append('=').append(x.byteAt(p, at + letters + 1));
      at += letters + 2;
    }
    for (; at < 64; at++) if (x.byteAt(p, at) != 0) text.append(" byte ").append(at).append(" is ").append(x.byteAt(p, at));
    return text.toString();
  }

  // ---- keys told by their letters

  static int v(String key) {
    int v = 0;
    for (char c : key.toCharArray()) v = 26 * v + c - 'a';
    return v;
  }

  static String spell(int v, int n) {
    StringBuilder key = new StringBuilder();
    for (int rest = v, j = 0; j < n; j++, rest /= 26) key.append((char) ('a' + rest % 26));
    return key.reverse().toString();
  }

  int put(String key, int value) {
    return put(v(key), key.length(), value);
  }

  int take(String key) {
    return take(v(key), key.length());
  }

  int find(String key) {
    return find(v(key), key.length());
  }

  int rank(String key, int what) {
    return rank(v(key), key.length(), what);
  }

  int path(String key, int level) {
    return path(v(key), key.length(), level);
  }

  void puts(int value, String... keys) {
    for (String key : keys) due(put(key, value), NONE);
  }

  /** Keys from this one on, each the next of its length, all with the value 7. */
  Pages rise(String first, int n) {
    for (int i = 0; i < n; i++) due(put(v(first) + i, first.length(), 7), NONE);
    return this;
  }

  /** What rise has put, as a page tells it. */
  static String row(String first, int n) {
    StringBuilder text = new StringBuilder();
    for (int i = 0; i < n; i++) text.append(i == 0 ? "" : " ").append(spell(v(first) + i, first.length())).append("=7");
    return text.toString();
  }

  /**
   * Leaves of five keys of five letters, the last of four: a leaf of nine is split into five and four, so each of these
   * keys is where a leaf begins, and the letters by which it differs from what is ahead decide its separator.
   */
  static Pages leaves(String... firsts) {
    Pages x = new Pages();
    for (int i = 0; i < firsts.length; i++) x.rise(firsts[i], i + 1 < firsts.length ? 5 : 4);
    return x;
  }

  /** Keys aa, ab, .. of four bytes each: fifteen come into a page, sixteen are shared as eight and eight. */
  static Pages pairs(int n) {
    return new Pages().rise("aa", n);
  }

  /**
   * Page 0 has only one entry, aaaae, and stays so: with page 1, of 64 bytes, it would be shared, but each time the separator
   * aab would become one of five letters, and the root have 65 bytes.
   */
  static Pages leafOfOneEntry() {
    Pages x = leaves("aaaaa", "aabaa", "aabba", "aabbf", "aabbk", "aabbp", "aabbu", "aabbz", "aabce", "aabcj");
    x.puts(7, "aabaf", "aabag", "aabah", "aab");
    for (String key : new String[] {"aaaaa", "aaaab", "aaaac", "aaaad"}) due(x.take(key), 7);
    return x;
  }

  void typeAll(String text) {
    for (char c : text.toCharArray()) type(c);
  }

  /** The answer of run; the text is empty behind it, whatever the answer was. */
  int say(String text) {
    typeAll(text);
    int answer = run();
    String call = "run() of '" + text + "'";
    clear();
    told = call;
    return answer;
  }

  // ---- the calls

  private int told(int answer, String name, int... numbers) {
    StringBuilder text = new StringBuilder(name).append('(');
    for (int i = 0; i < numbers.length; i++) text.append(i == 0 ? "" : ", ").append(numbers[i]);
    told = text.append(')').toString();
    if (++calls == MOST_CALLS + 1) fault("the test makes too many calls");
    return answer;
  }

  int type(int c) {
    return told(x.type(c), "type", c);
  }

  int clear() {
    return told(x.clear(), "clear");
  }

  int run() {
    return told(x.run(), "run");
  }

  int put(int v, int n, int value) {
    return told(x.put(v, n, value), "put", v, n, value);
  }

  int take(int v, int n) {
    return told(x.take(v, n), "take", v, n);
  }

  int load(int f, int s, int n) {
    return told(x.load(f, s, n), "load", f, s, n);
  }

  int find(int v, int n) {
    return told(x.find(v, n), "find", v, n);
  }

  int rank(int v, int n, int what) {
    return told(x.rank(v, n, what), "rank", v, n, what);
  }

  int path(int v, int n, int level) {
    return told(x.path(v, n, level), "path", v, n, level);
  }

  int letter(int k, int j) {
    return told(x.letter(k, j), "letter", k, j);
  }

  int value(int k) {
    return told(x.value(k), "value", k);
  }

  int page(int p, int what) {
    return told(x.page(p, what), "page", p, what);
  }

  int byteAt(int p, int i) {
    return told(x.byteAt(p, i), "byteAt", p, i);
  }

  int check(int p, int i, int v) {
    return told(x.check(p, i, v), "check", p, i, v);
  }

  int count(int what) {
    return told(x.count(what), "count", what);
  }

  long digest() {
    told(0, "digest");
    return x.digest();
  }

  int keep(int image) {
    return told(x.keep(image), "keep", image);
  }

  int back(int image) {
    return told(x.back(image), "back", image);
  }

  int times(int what) {
    return told(x.times(what), "times", what);
  }
}
