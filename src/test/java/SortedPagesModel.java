import java.util.ArrayList;
import java.util.Arrays;
import java.util.List;
import java.util.Random;
import java.util.TreeMap;

/**
 * Random runs of calls against a second, plain telling of the document: nodes with lists of texts, from which
 * the bytes are written anew each time. Seeds are fixed, so every run of this test is the same.
 */
public final class SortedPagesModel {
  private static int wrong = 0;
  private static int mostLevels = 0, staysSeen = 0, fullSeen = 0, innerJoins = 0, innerShares = 0, rootsLowered = 0;
  private static final int[] whySeen = new int[8];

  private static final class Node {
    int number;
    boolean leaf;
    List<String> names = new ArrayList<>();
    List<Integer> values = new ArrayList<>();
    List<Node> kids = new ArrayList<>();

    int used() {
      int sum = 3;
      for (String name : names) sum += name.length() + 2;
      return sum;
    }
  }

  private static final class Model {
    Node[] pages = new Node[32];
    Node root = fresh(true);
    int splits, joins, shares;
    String text = "";
    int[][][] images = new int[2][][];
    Node[] imageRoots = new Node[2];

    Node fresh(boolean leaf) {
      for (int p = 0; p < 32; p++) {
        if (pages[p] == null) {
          Node node = new Node();
          node.number = p;
          node.leaf = leaf;
          pages[p] = node;
          return node;
        }
      }
      throw new IllegalStateException("no page is free");
    }

    int levels() {
      int levels = 1;
      for (Node node = root; !node.leaf; node = node.kids.get(0)) levels++;
      return levels;
    }

    int free() {
      int free = 0;
      for (Node node : pages) if (node == null) free++;
      return free;
    }

    List<Node> leaves() {
      List<Node> all = new ArrayList<>();
      gatherLeaves(root, all);
      return all;
    }

    void gatherLeaves(Node node, List<Node> all) {
      if (node.leaf) all.add(node);
      for (Node kid : node.kids) gatherLeaves(kid, all);
    }

    TreeMap<String, Integer> pairs() {
      TreeMap<String, Integer> map = new TreeMap<>();
      for (Node leaf : leaves()) for (int i = 0; i < leaf.names.size(); i++) map.put(leaf.names.get(i), leaf.values.get(i));
      return map;
    }

    int[][] bytes() {
      int[][] all = new int[32][64];
      List<Node> leaves = leaves();
      for (Node node : pages) {
        if (node == null) continue;
        int[] b = all[node.number];
        b[0] = node.leaf ? 1 : 2;
        b[1] = node.names.size();
        int place = leaves.indexOf(node);
        if (!node.leaf) b[2] = node.kids.get(0).number;
        else if (place + 1 < leaves.size()) b[2] = leaves.get(place + 1).number + 1;
        int at = 3;
        for (int i = 0; i < node.names.size(); i++) {
          String name = node.names.get(i);
          b[at++] = name.length();
          for (char c : name.toCharArray()) b[at++] = c;
          b[at++] = node.leaf ? node.values.get(i) : node.kids.get(i + 1).number;
        }
      }
      return all;
    }

    int slot(Node node, String key) {
      int slot = 0;
      for (String name : node.names) if (name.compareTo(key) <= 0) slot++;
      return slot;
    }

    int put(String key, int value) {
      TreeMap<String, Integer> before = pairs();
      if (!before.containsKey(key) && free() <= levels()) {
        fullSeen++;
        return SortedPages.FULL;
      }
      Object[] up = putBelow(root, key, value);
      if (up != null) {
        Node old = root;
        root = fresh(false);
        root.names.add((String) up[0]);
        root.kids.add(old);
        root.kids.add((Node) up[1]);
      }
      return before.containsKey(key) ? before.get(key) : SortedPages.NONE;
    }

    Object[] putBelow(Node node, String key, int value) {
      if (node.leaf) {
        int i = node.names.indexOf(key);
        if (i >= 0) {
          node.values.set(i, value);
          return null;
        }
        i = slot(node, key);
        node.names.add(i, key);
        node.values.add(i, value);
      } else {
        int slot = slot(node, key);
        Object[] up = putBelow(node.kids.get(slot), key, value);
        if (up == null) return null;
        node.names.add(slot, (String) up[0]);
        node.kids.add(slot + 1, (Node) up[1]);
      }
      if (node.used() <= 64) return null;
      splits++;
      Node right = fresh(node.leaf);
      return new Object[] {spread(node.names, node.values, node.kids, node, right), right};
    }

    int half(List<String> names) {
      int all = 0, sum = 0, n = 0;
      for (String name : names) all += name.length() + 2;
      while (sum * 2 < all) sum += names.get(n++).length() + 2;
      return n;
    }

    String separator(List<String> names, boolean leaf) {
      int n = half(names);
      return leaf ? cut(names.get(n - 1), names.get(n)) : names.get(n);
    }

    String cut(String left, String right) {
      for (int length = 1; ; length++) {
        String head = right.substring(0, length);
        if (head.compareTo(left) > 0) return head;
      }
    }

    /** Puts all of these into left and right; the lists may be those of left itself. */
    String spread(List<String> names, List<Integer> values, List<Node> kids, Node left, Node right) {
      int n = half(names);
      String between = separator(names, left.leaf);
      int skip = left.leaf ? 0 : 1;
      List<String> rightNames = new ArrayList<>(names.subList(n + skip, names.size()));
      List<String> leftNames = new ArrayList<>(names.subList(0, n));
      if (left.leaf) {
        List<Integer> rightValues = new ArrayList<>(values.subList(n, values.size()));
        left.values = new ArrayList<>(values.subList(0, n));
        right.values = rightValues;
      } else {
        List<Node> rightKids = new ArrayList<>(kids.subList(n + 1, kids.size()));
        left.kids = new ArrayList<>(kids.subList(0, n + 1));
        right.kids = rightKids;
      }
      left.names = leftNames;
      right.names = rightNames;
      return between;
    }

    int take(String key) {
      Integer had = pairs().get(key);
      if (had == null) return SortedPages.NONE;
      takeBelow(root, key);
      if (!root.leaf && root.names.isEmpty()) {
        pages[root.number] = null;
        root = root.kids.get(0);
        rootsLowered++;
      }
      return had;
    }

    /** True if a child was joined, or the leaf has lost its key: only then may the page itself be mended. */
    boolean takeBelow(Node node, String key) {
      if (node.leaf) {
        int i = node.names.indexOf(key);
        node.names.remove(i);
        node.values.remove(i);
        return true;
      }
      int slot = slot(node, key);
      Node kid = node.kids.get(slot);
      if (!takeBelow(kid, key) || kid.used() >= 32) return false;
      int i = slot + 1 < node.kids.size() ? slot : slot - 1;
      return i >= 0 && mend(node, i);
    }

    boolean mend(Node above, int i) {
      Node left = above.kids.get(i), right = above.kids.get(i + 1);
      List<String> names = new ArrayList<>(left.names);
      if (!left.leaf) names.add(above.names.get(i));
      names.addAll(right.names);
      List<Integer> values = new ArrayList<>(left.values);
      values.addAll(right.values);
      List<Node> kids = new ArrayList<>(left.kids);
      kids.addAll(right.kids);
      int sum = 0;
      for (String name : names) sum += name.length() + 2;
      if (sum <= 61) {
        left.names = names;
        left.values = values;
        left.kids = kids;
        pages[right.number] = null;
        above.names.remove(i);
        above.kids.remove(i + 1);
        joins++;
        if (!left.leaf) innerJoins++;
        return true;
      }
      String between = separator(names, left.leaf);
      if (above.used() - above.names.get(i).length() + between.length() > 64) {
        staysSeen++;
        return false;
      }
      above.names.set(i, spread(names, values, kids, left, right));
      shares++;
      if (!left.leaf) innerShares++;
      return false;
    }

    int load(int f, int s, int n) {
      pages = new Node[32];
      List<Node> level = new ArrayList<>();
      for (int i = 0; i < n; i++) {
        String key = spell(f + s * i, 3);
        if (level.isEmpty() || level.get(level.size() - 1).used() + 5 > 64) level.add(fresh(true));
        level.get(level.size() - 1).names.add(key);
        level.get(level.size() - 1).values.add(i);
      }
      if (level.size() > 1 && level.get(level.size() - 1).used() < 32) {
        Node left = level.get(level.size() - 2), right = level.get(level.size() - 1);
        List<String> names = new ArrayList<>(left.names);
        names.addAll(right.names);
        List<Integer> values = new ArrayList<>(left.values);
        values.addAll(right.values);
        spread(names, values, new ArrayList<>(), left, right);
      }
      root = level.get(0);
      if (level.size() > 1) {
        root = fresh(false);
        for (int i = 0; i < level.size(); i++) {
          root.kids.add(level.get(i));
          if (i > 0) {
            List<String> ahead = level.get(i - 1).names;
            root.names.add(cut(ahead.get(ahead.size() - 1), level.get(i).names.get(0)));
          }
        }
        if (root.used() > 64) throw new IllegalStateException("a load that wants three levels");
      }
      return levels();
    }

    // ---- commands, with texts and patterns

    int run() {
      List<String[]> commands = new ArrayList<>();
      int place = 0;
      while (true) {
        int[] token = token(place);
        if (token == null) break;
        String word = text.substring(token[0], token[1]);
        String form = word.equals("put") ? "KV" : word.equals("take") ? "K" : word.equals("load") ? "FSN" : null;
        if (form == null) return -10 - token[0];
        List<String> parts = new ArrayList<>(List.of(word));
        place = token[1];
        for (char sort : (form + ";").toCharArray()) {
          token = token(place);
          if (token == null) return -10 - text.length();
          String part = text.substring(token[0], token[1]);
          if (!fits(sort, part, parts)) return -10 - token[0];
          parts.add(part);
          place = token[1];
        }
        commands.add(parts.toArray(new String[0]));
      }
      int done = 0;
      for (String[] c : commands) {
        if (c[0].equals("put")) done += put(c[1], Integer.parseInt(c[2])) == SortedPages.FULL ? 0 : 1;
        else if (c[0].equals("take")) done += take(c[1]) == SortedPages.NONE ? 0 : 1;
        else {
          load(Integer.parseInt(c[1]), Integer.parseInt(c[2]), Integer.parseInt(c[3]));
          done++;
        }
      }
      text = "";
      return done;
    }

    boolean fits(char sort, String part, List<String> parts) {
      if (sort == ';') return part.equals(";");
      if (sort == 'K') return part.matches("[a-z]{1,8}");
      if (!part.matches("0|[1-9][0-9]{0,4}")) return false;
      int number = Integer.parseInt(part);
      if (sort == 'V') return number <= 255;
      if (sort == 'F') return number <= 17575;
      if (sort == 'S') return number >= 1 && number <= 99;
      int f = Integer.parseInt(parts.get(1)), s = Integer.parseInt(parts.get(2));
      return number >= 1 && number <= 60 && f + s * (number - 1) <= 17575;
    }

    int[] token(int from) {
      java.util.regex.Matcher m = java.util.regex.Pattern.compile(" *([a-z]+|[0-9]+|[^ ])", java.util.regex.Pattern.DOTALL).matcher(text);
      m.region(from, text.length());
      return m.lookingAt() ? new int[] {m.start(1), m.end(1)} : null;
    }

    // ---- the checker, over bytes alone

    int check(int p, int i, int v) {
      int[][] b = bytes();
      b[p][i] = v;
      List<Integer> come = new ArrayList<>();
      List<Integer> leaves = new ArrayList<>();
      int found = walk(b, root.number, levels(), new ArrayList<>(), new ArrayList<>(), come, leaves);
      if (found != 0) return found;
      for (int k = 0; k < leaves.size(); k++) {
        int due = k + 1 < leaves.size() ? leaves.get(k + 1) + 1 : 0;
        if (b[leaves.get(k)][2] != due) return 600 + leaves.get(k);
      }
      for (int q = 0; q < 32; q++) {
        if (!come.contains(q) && Arrays.stream(b[q]).anyMatch(x -> x != 0)) return 700 + q;
      }
      return 0;
    }

    int walk(int[][] all, int p, int left, List<String> lows, List<String> highs, List<Integer> come, List<Integer> leaves) {
      come.add(p);
      int[] b = all[p];
      if (b[0] != (left == 1 ? 1 : 2)) return 100 + p;
      List<String> names = new ArrayList<>();
      List<Integer> tails = new ArrayList<>();
      int at = 3;
      if (b[1] == 0 && !(left == 1 && p == root.number)) return 200 + p;
      for (int k = 0; k < b[1]; k++) {
        if (at > 63 || b[at] < 1 || b[at] > 8 || at + b[at] + 1 > 63) return 200 + p;
        StringBuilder name = new StringBuilder();
        for (int j = 1; j <= b[at]; j++) name.append((char) b[at + j]);
        if (!name.toString().matches("[a-z]+")) return 200 + p;
        names.add(name.toString());
        tails.add(b[at + b[at] + 1]);
        at += b[at] + 2;
      }
      for (; at < 64; at++) if (b[at] != 0) return 200 + p;
      for (int k = 1; k < names.size(); k++) if (names.get(k).compareTo(names.get(k - 1)) <= 0) return 300 + p;
      for (String name : names) {
        for (String low : lows) if (name.compareTo(low) < 0) return 400 + p;
        for (String high : highs) if (name.compareTo(high) >= 0) return 400 + p;
      }
      if (left == 1) {
        leaves.add(p);
        return 0;
      }
      tails.add(0, b[2]);
      for (int k = 0; k < tails.size(); k++) {
        if (tails.get(k) > 31 || come.contains(tails.get(k)) || tails.indexOf(tails.get(k)) != k) return 500 + p;
      }
      for (int k = 0; k < tails.size(); k++) {
        List<String> lower = new ArrayList<>(lows), higher = new ArrayList<>(highs);
        if (k > 0) lower.add(names.get(k - 1));
        if (k < names.size()) higher.add(names.get(k));
        int found = walk(all, tails.get(k), left - 1, lower, higher, come, leaves);
        if (found != 0) return found;
      }
      return 0;
    }

    // ---- images: the tree is read again from the bytes that were kept

    void keep(int image) {
      images[image] = bytes();
      imageRoots[image] = root;
    }

    void back(int image) {
      pages = new Node[32];
      root = read(images[image], imageRoots[image].number);
    }

    Node read(int[][] all, int p) {
      int[] b = all[p];
      Node node = new Node();
      node.number = p;
      node.leaf = b[0] == 1;
      pages[p] = node;
      if (!node.leaf) node.kids.add(read(all, b[2]));
      int at = 3;
      for (int k = 0; k < b[1]; k++) {
        StringBuilder name = new StringBuilder();
        for (int j = 1; j <= b[at]; j++) name.append((char) b[at + j]);
        at += b[at] + 2;
        node.names.add(name.toString());
        if (node.leaf) node.values.add(b[at - 1]);
        else node.kids.add(read(all, b[at - 1]));
      }
      return node;
    }

    int count(int what) {
      int used = 0, letters = 0;
      for (Node node : pages) {
        if (node == null) continue;
        used += node.used();
        if (!node.leaf) letters += String.join("", node.names).length();
      }
      int[] all = {pairs().size(), levels(), root.number, free(), used, leaves().size(), leaves().get(0).number, letters};
      return all[what];
    }

    int path(String key, int level) {
      Node node = root;
      for (int i = 0; i < level; i++) {
        if (node.leaf) return SortedPages.NONE;
        node = node.kids.get(slot(node, key));
      }
      return node.number;
    }

    long digest() {
      long h = 17;
      for (int[] page : bytes()) for (int b : page) h = 31 * h + b;
      return h;
    }
  }

  private static String spell(int v, int n) {
    StringBuilder name = new StringBuilder();
    for (int j = 0; j < n; j++) {
      name.append((char) ('a' + v % 26));
      v /= 26;
    }
    return name.reverse().toString();
  }

  private static void due(String run, String call, long got, long want) {
    if (got != want && wrong++ < 40) System.out.println(run + ": " + call + " answered " + got + ", due is " + want);
  }

  /** One object, at most 512 calls on it. */
  private static final class Run {
    final String name;
    final Random random;
    final SortedPages x = new SortedPages();
    final Model m = new Model();
    final int n, first, spread;
    int calls = 0;

    Run(long seed) {
      name = "seed " + seed;
      random = new Random(seed);
      n = 1 + random.nextInt(5);
      int all = (int) Math.pow(26, n);
      spread = random.nextBoolean() ? all : Math.min(all, 60 + random.nextInt(200));
      first = random.nextInt(all - spread + 1);
    }

    int some() {
      return first + random.nextInt(spread);
    }

    void call(String what, long got, long want) {
      calls++;
      due(name + " call " + calls, what, got, want);
    }

    void put(int v, int value) {
      call("put(" + v + ", " + n + ", " + value + ")", x.put(v, n, value), m.put(spell(v, n), value));
    }

    void take(int v) {
      call("take(" + v + ", " + n + ")", x.take(v, n), m.take(spell(v, n)));
    }

    void say(String text) {
      for (char c : text.toCharArray()) {
        boolean room = m.text.length() < 120;
        if (room) m.text += c;
        call("type(" + (int) c + ")", x.type(c), room ? m.text.length() : SortedPages.FULL);
      }
      call("run() of " + m.text, x.run(), m.run());
      call("clear()", x.clear(), m.text.length());
      m.text = "";
    }

    void look() {
      call("digest()", x.digest(), m.digest());
      int what = random.nextInt(8);
      call("count(" + what + ")", x.count(what), m.count(what));
      int v = some();
      String key = spell(v, n);
      call("find(" + v + ", " + n + ")", x.find(v, n), m.pairs().getOrDefault(key, SortedPages.NONE));
      int level = random.nextInt(5);
      call("path(" + v + ", " + n + ", " + level + ")", x.path(v, n, level), m.path(key, level));
      call("rank(" + v + ", " + n + ", 0)", x.rank(v, n, 0), m.pairs().headMap(key).size());
      int h = 1 + random.nextInt(n);
      int head = v / (int) Math.pow(26, n - h);
      call("rank(" + head + ", " + h + ", 1)", x.rank(head, h, 1), m.pairs().keySet().stream().filter(s -> s.startsWith(spell(head, h))).count());
      lookAtKey();
      lookAtPage();
    }

    void lookAtKey() {
      List<String> keys = new ArrayList<>(m.pairs().keySet());
      int k = random.nextInt(keys.size() + 2) - 1, j = random.nextInt(10) - 1;
      boolean there = k >= 0 && k < keys.size();
      call("value(" + k + ")", x.value(k), there ? m.pairs().get(keys.get(k)) : SortedPages.BAD);
      int letter = !there || j < 0 || j > 7 ? SortedPages.BAD : j < keys.get(k).length() ? keys.get(k).charAt(j) : SortedPages.NONE;
      call("letter(" + k + ", " + j + ")", x.letter(k, j), letter);
    }

    void lookAtPage() {
      int p = random.nextInt(32), i = random.nextInt(64);
      if (random.nextInt(3) > 0) p = Math.min(p, 31 - m.free());
      int[] b = m.bytes()[p];
      call("byteAt(" + p + ", " + i + ")", x.byteAt(p, i), b[i]);
      int what = random.nextInt(4);
      int used = m.pages[p] == null ? 0 : m.pages[p].used();
      call("page(" + p + ", " + what + ")", x.page(p, what), what == 3 ? used : b[what]);
      what = random.nextInt(4);
      int[] times = {m.text.length(), m.splits, m.joins, m.shares};
      call("times(" + what + ")", x.times(what), times[what]);
      check(p, i, random.nextInt(256));
      check(p, random.nextInt(24), b[i] + 1 & 255);
      check(p, random.nextInt(used + 1) & 63, 97 + random.nextInt(26));
      check(p, random.nextInt(used + 1) & 63, random.nextInt(33));
    }

    void check(int p, int i, int v) {
      int want = m.check(p, i, v);
      whySeen[want / 100]++;
      call("check(" + p + ", " + i + ", " + v + ")", x.check(p, i, v), want);
    }

    void images() {
      int image = random.nextInt(2);
      if (random.nextBoolean()) {
        m.keep(image);
        call("keep(" + image + ")", x.keep(image), m.pairs().size());
      } else if (m.images[image] == null) {
        call("back(" + image + ")", x.back(image), SortedPages.STATE);
      } else {
        m.back(image);
        call("back(" + image + ")", x.back(image), m.pairs().size());
      }
    }

    void loads() {
      int s = 1 + random.nextInt(99), count = 1 + random.nextInt(60);
      int f = random.nextInt(17575 - s * (count - 1) + 1);
      call("load(" + f + ", " + s + ", " + count + ")", x.load(f, s, count), m.load(f, s, count));
    }

    void step(int balance) {
      int dice = random.nextInt(100);
      if (dice < balance) put(some(), random.nextInt(256));
      else if (dice < 96) {
        List<String> keys = new ArrayList<>(m.pairs().keySet());
        keys.removeIf(s -> s.length() != n);
        if (keys.isEmpty() || random.nextInt(8) == 0) take(some());
        else take(unspell(keys.get(random.nextInt(keys.size()))));
      } else if (dice < 98) images();
      else if (random.nextInt(6) == 0) loads();
      mostLevels = Math.max(mostLevels, m.levels());
    }

    void go() {
      int balance = 90;
      while (calls < 480) {
        if (random.nextInt(70) == 0) balance = random.nextBoolean() ? 85 : 20;
        step(balance);
        if (random.nextInt(25) == 0) look();
      }
      for (int i = 0; i < 2; i++) lookAtPage();
    }
  }

  private static int unspell(String key) {
    int v = 0;
    for (char c : key.toCharArray()) v = 26 * v + c - 'a';
    return v;
  }

  /** Long keys come by texts alone; to reach many of them in 512 calls, several short texts use one long head. */
  private static void longKeys(long seed) {
    Run run = new Run(seed);
    int width = 3 + run.random.nextInt(6);
    List<String> all = new ArrayList<>();
    StringBuilder text = new StringBuilder();
    while (run.calls < 370) {
      text.setLength(0);
      while (text.length() < 105) {
        if (!all.isEmpty() && run.random.nextInt(3) == 0) text.append("take ").append(all.remove(run.random.nextInt(all.size()))).append(';');
        else {
          String key = "aaaaaaaa".substring(0, width - 1) + (char) ('a' + run.random.nextInt(26));
          all.add(key);
          text.append("put ").append(key).append(run.random.nextBoolean() ? " " : "").append(run.random.nextInt(256)).append(';');
        }
        if (run.random.nextInt(9) == 0) text.append(' ');
      }
      run.say(text.substring(0, Math.min(120, text.length())));
      run.look();
    }
  }

  /** Texts that are nearly right: a few bytes of a right one are others. */
  private static void brokenTexts(long seed) {
    Run run = new Run(seed);
    String[] pieces = {"put", "take", "load", "puts", "a", "zz", "abcdefgh", "abcdefghi", "0", "1", "7", "60", "61", "99", "100", "255",
      "256", "01", "17575", "17576", "99999", "100000", "4294967297", ";", ";", ";", " ", "A", "-", "\n"};
    while (run.calls < 380) {
      StringBuilder text = new StringBuilder();
      for (int part = 0; part < 6; part++) {
        int dice = run.random.nextInt(5);
        if (dice == 0) text.append("put ").append(pieces[run.random.nextInt(8)]).append(' ').append(pieces[8 + run.random.nextInt(9)]).append(';');
        else if (dice == 1) text.append("take ").append(pieces[run.random.nextInt(7)]).append("; ");
        else if (dice == 2) text.append("load ").append(run.random.nextInt(18000)).append(' ').append(run.random.nextInt(101)).append(' ').append(run.random.nextInt(62)).append(';');
        else if (dice == 3 && run.random.nextInt(3) == 0) text.append(pieces[run.random.nextInt(pieces.length)]).append(run.random.nextBoolean() ? " " : "");
      }
      run.say(text.length() > 121 ? text.substring(0, 121) : text.toString());
      run.call("digest()", run.x.digest(), run.m.digest());
    }
  }

  /** Every byte of every page of one tree, changed to many others. */
  private static void everyByte(long seed, int keys) {
    Random random = new Random(seed);
    Model m = new Model();
    int[] row = random.ints(0, 11881376).limit(keys).map(v -> v % 400).toArray();
    for (int v : row) m.put(spell(v, 5), v & 255);
    mostLevels = Math.max(mostLevels, m.levels());
    for (int p = 0; p < 32; p++) {
      for (int i = 0; i < 64; i += 4) {
        SortedPages y = new SortedPages();
        for (int v : row) y.put(v, 5, v & 255);
        for (int j = i; j < i + 4; j++) {
          for (int t = 0; t < 18; t++) {
            int v = t < 8 ? t : t < 12 ? 8 + random.nextInt(25) : t < 16 ? 97 + random.nextInt(26) : random.nextInt(256);
            int want = m.check(p, j, v);
            whySeen[want / 100]++;
            due("every byte, seed " + seed, "check(" + p + ", " + j + ", " + v + ")", y.check(p, j, v), want);
          }
        }
        due("every byte, seed " + seed, "digest()", y.digest(), m.digest());
      }
    }
  }

  public static void main(String[] args) {
    int runs = args.length > 0 ? Integer.parseInt(args[0]) : 150;
    for (int seed = 1; seed <= runs; seed++) {
      new Run(seed).go();
      longKeys(100000 + seed);
      brokenTexts(200000 + seed);
    }
    everyByte(1, 150);
    everyByte(2, 40);
    System.out.println("levels at most " + mostLevels + ", full " + fullSeen + ", stays " + staysSeen + ", inner joins " + innerJoins
      + ", inner shares " + innerShares + ", roots lowered " + rootsLowered + ", whys " + Arrays.toString(whySeen));
    System.out.println(wrong == 0 ? "all answers are as due" : wrong + " answers are not as due");
    if (wrong != 0) System.exit(1);
  }
}
