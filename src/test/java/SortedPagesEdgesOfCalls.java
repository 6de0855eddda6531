import java.math.BigInteger;

/** The edges of each promise by itself: each BAD, STATE, FULL and NONE that is named there. */
public final class SortedPagesEdgesOfCalls {
  private static final int BAD = Pages.BAD, STATE = Pages.STATE, FULL = Pages.FULL, NONE = Pages.NONE;
  private static final int LOWEST = Pages.LOWEST, HIGHEST = Pages.HIGHEST;

  private static void due(long got, long want) {
    Pages.due(got, want);
  }

  private static void constants() {
    Pages.sentence("BAD = -1, STATE = -2, FULL = -3, NONE = -9");
    due(SortedPages.BAD, -1);
    due(SortedPages.STATE, -2);
    due(SortedPages.FULL, -3);
    due(SortedPages.NONE, -9);
  }

  // ---- the first of these: BAD, STATE, FULL

  private static void badAheadOfFull() {
    Pages.sentence("Refused, and nothing changes, the first of these: BAD .., FULL");
    Pages x = new Pages();
    for (int i = 0; i < 120; i++) x.type(' ');
    x.refused(FULL, () -> x.type(0));
    x.refused(FULL, () -> x.type(255));
    x.refused(BAD, () -> x.type(-1));
    x.refused(BAD, () -> x.type(256));
    Pages y = new Pages().rise("aaaaa", 119);
    y.refused(FULL, () -> y.put(25, 1, 255));
    y.refused(BAD, () -> y.put(25, 1, 256));
    y.refused(BAD, () -> y.put(25, 1, -1));
    y.refused(BAD, () -> y.put(26, 1, 1));
    y.refused(BAD, () -> y.put(0, 6, 1));
    y.refused(BAD, () -> y.put(0, 5, 256));
  }

  private static void badAheadOfState() {
    Pages.sentence("Refused, and nothing changes, the first of these: BAD .., STATE");
    Pages x = Pages.pairs(3);
    x.refused(BAD, () -> x.back(-1));
    x.refused(BAD, () -> x.back(2));
    x.refused(STATE, () -> x.back(0));
    x.refused(STATE, () -> x.back(1));
  }

  private static void badAheadOfNone() {
    Pages.sentence("Refused: BAD (a number is not as told, or there is no such thing): also where NONE would be");
    Pages x = Pages.pairs(3);
    x.refused(BAD, () -> x.path(26, 1, 1));
    x.refused(BAD, () -> x.path(0, 0, 99));
    x.refused(NONE, () -> x.path(25, 1, 1));
    x.refused(BAD, () -> x.letter(3, 7));
    x.refused(BAD, () -> x.letter(0, 8));
    x.refused(NONE, () -> x.letter(2, 7));
    x.refused(BAD, () -> x.find(26, 1));
    x.refused(NONE, () -> x.find(25, 1));
    x.refused(BAD, () -> x.take(26, 1));
    x.refused(NONE, () -> x.take(25, 1));
  }

  // ---- commands

  private static void typeAByte() {
    Pages.sentence("A byte (0 .. 255) comes to THE TEXT: how many it has. BAD; FULL.");
    Pages x = Pages.pairs(3);
    for (int c : new int[] {-1, 256, LOWEST, HIGHEST}) x.refused(BAD, () -> x.type(c));
    due(x.type(0), 1);
    due(x.type(255), 2);
    due(x.type(';'), 3);
    for (int i = 4; i <= 120; i++) due(x.type(97), i);
    x.refused(FULL, () -> x.type(97));
    due(x.run(), -10);
    due(x.times(0), 120);
  }

  private static void clearTheText() {
    Pages.sentence("THE TEXT is empty: how many bytes it had");
    Pages x = Pages.pairs(3);
    String before = x.state();
    due(x.clear(), 0);
    x.type('x');
    due(x.clear(), 1);
    due(x.clear(), 0);
    for (int i = 0; i < 120; i++) x.type('x');
    due(x.clear(), 120);
    x.dueState(before);
    x.typeAll("put b 1;");
    due(x.run(), 1);
    due(x.find("b"), 1);
  }

  // ---- what is done

  private static void putNewAndOld() {
    Pages.sentence("PUT: the VALUE till then; NONE: it is new");
    Pages x = new Pages();
    due(x.put("a", 0), NONE);
    due(x.put("a", 0), 0);
    due(x.put("a", 255), 0);
    due(x.put("a", 1), 255);
    due(x.put("aa", 2), NONE);
    due(x.take("a"), 1);
    due(x.put("a", 3), NONE);
    due(x.count(0), 2);
  }

  private static void takeAndNone() {
    Pages.sentence("TAKE: the VALUE that it had. NONE: it is not there. BAD.");
    Pages x = new Pages();
    x.refused(NONE, () -> x.take("a"));
    due(x.put("a", 0), NONE);
    due(x.put("b", 255), NONE);
    x.refused(NONE, () -> x.take("aa"));
    due(x.take("a"), 0);
    x.refused(NONE, () -> x.take("a"));
    due(x.take("b"), 255);
    x.refused(NONE, () -> x.take("b"));
    for (int[] k : new int[][] {{-1, 1}, {26, 1}, {0, 0}, {0, 6}, {676, 2}, {HIGHEST, 5}}) x.refused(BAD, () -> x.take(k[0], k[1]));
  }

  private static void loadTellsLevels() {
    Pages.sentence("LOAD: LEVELS then. BAD.");
    Pages x = Pages.pairs(16);
    due(x.load(0, 1, 12), 1);
    due(x.load(0, 1, 13), 2);
    due(x.load(0, 99, 60), 2);
    due(x.load(9, 9, 1), 1);
    for (int[] b : new int[][] {{-1, 1, 1}, {17576, 1, 1}, {0, 0, 1}, {0, 100, 1}, {0, 1, 0}, {0, 1, 61}, {17575, 1, 2}}) {
      x.refused(BAD, () -> x.load(b[0], b[1], b[2]));
    }
  }

  // ---- what is found

  private static void findAndNone() {
    Pages.sentence("find: The VALUE; NONE. BAD.");
    Pages x = new Pages();
    x.refused(NONE, () -> x.find("a"));
    due(x.put("m", 0), NONE);
    due(x.put("mm", 255), NONE);
    due(x.find("m"), 0);
    due(x.find("mm"), 255);
    for (String key : new String[] {"a", "l", "lz", "ma", "ml", "mn", "mmm", "mma", "n", "z"}) due(x.find(key), NONE);
    Pages y = Pages.pairs(40);
    for (int i = 0; i < 40; i++) due(y.find(i, 2), 7);
    due(y.find(40, 2), NONE);
    due(y.find("ahz"), NONE);
    due(y.find("a"), NONE);
  }

  private static void howManyAreLess() {
    Pages.sentence("rank: How many KEYS are less (what = 0)");
    due(new Pages().rank("zzzzz", 0), 0);
    Pages x = Pages.pairs(40);
    due(x.rank("a", 0), 0);
    due(x.rank("aa", 0), 0);
    due(x.rank("aaa", 0), 1);
    due(x.rank("ab", 0), 1);
    for (int i = 0; i < 40; i++) due(x.rank(i, 2, 0), i);
    due(x.rank("bn", 0), 39);
    due(x.rank("bna", 0), 40);
    due(x.rank("zzzzz", 0), 40);
    due(x.say("put abababab 1;"), 1);
    due(x.rank("ababa", 0), 2);
    due(x.rank("ababb", 0), 3);
  }

  private static void howManyBeginSo() {
    Pages.sentence("rank: .. begin so (1)");
    due(new Pages().rank("a", 1), 0);
    Pages x = Pages.pairs(40);
    due(x.rank("a", 1), 26);
    due(x.rank("b", 1), 14);
    due(x.rank("c", 1), 0);
    due(x.rank("aa", 1), 1);
    due(x.rank("bn", 1), 1);
    due(x.rank("bo", 1), 0);
    due(x.rank("aaa", 1), 0);
    x.puts(7, "a", "aaaaa", "aaaab");
    due(x.rank("a", 1), 29);
    due(x.rank("aa", 1), 3);
    due(x.rank("aaaaa", 1), 1);
    due(x.say("put aaaaaaaa 1;"), 1);
    due(x.rank("aaaaa", 1), 2);
    due(x.rank("aaaab", 1), 1);
  }

  /** The value 98 is that of the letter b, and stands right behind the a. */
  private static void aValueIsNoLetter() {
    Pages.sentence("how many letters, the letters, then one BYTE: which is no letter of the KEY, whatever its VALUE");
    Pages x = new Pages();
    due(x.put("a", 'b'), NONE);
    due(x.put("c", 'c'), NONE);
    due(x.rank("ab", 1), 0);
    due(x.rank("a", 1), 1);
    due(x.rank("cc", 1), 0);
    due(x.rank("ab", 0), 1);
    due(x.rank("cc", 0), 2);
    due(x.find("ab"), NONE);
    due(x.take("ab"), NONE);
    due(x.letter(0, 1), NONE);
    due(x.put("ab", 1), NONE);
    x.dueLeaf(0, 0, "a=98 ab=1 c=99");
  }

  private static void rankIsBad() {
    Pages.sentence("rank: BAD");
    Pages x = Pages.pairs(3);
    for (int what : new int[] {-1, 2, 3, LOWEST, HIGHEST}) x.refused(BAD, () -> x.rank(0, 1, what));
    x.refused(BAD, () -> x.rank(26, 1, 0));
    x.refused(BAD, () -> x.rank(26, 1, 1));
    due(x.rank(25, 1, 0), 3);
    due(x.rank(25, 1, 1), 0);
  }

  private static void pathOnALevel() {
    Pages.sentence("path: The PAGE on a level (0: the ROOT); NONE: there are not so many. BAD: also level below 0");
    Pages x = new Pages();
    due(x.path("a", 0), 0);
    due(x.path("a", 1), NONE);
    Pages y = Pages.pairs(16);
    due(y.path("a", 0), 2);
    due(y.path("a", 1), 0);
    due(y.path("z", 1), 1);
    due(y.path("a", 2), NONE);
    due(y.path("a", HIGHEST), NONE);
    y.refused(BAD, () -> y.path("a", -1));
    y.refused(BAD, () -> y.path("a", LOWEST));
    Pages z = new Pages().rise("aaaaa", 49);
    int[] way = {12, 11, 10, NONE, NONE};
    for (int level = 0; level < way.length; level++) due(z.path("z", level), way[level]);
    due(z.path("a", 1), 2);
    due(z.path("a", 2), 0);
  }

  private static void letterOfAKey() {
    Pages.sentence("Letter j (0 .. 7) of KEY k, along the LEAVES; NONE: it has not so many. BAD.");
    Pages x = Pages.pairs(20);
    due(x.say("put zyxwvuts 77;put b 1;"), 2);
    for (int k : new int[] {-1, 22, 23, LOWEST, HIGHEST}) x.refused(BAD, () -> x.letter(k, 0));
    for (int j : new int[] {-1, 8, LOWEST, HIGHEST}) {
      x.refused(BAD, () -> x.letter(0, j));
      x.refused(BAD, () -> x.letter(21, j));
    }
    for (int k = 0; k < 20; k++) {
      due(x.letter(k, 0), 'a');
      due(x.letter(k, 1), 'a' + k);
      due(x.letter(k, 2), NONE);
      due(x.letter(k, 7), NONE);
    }
    due(x.letter(20, 0), 'b');
    due(x.letter(20, 1), NONE);
    for (int j = 0; j < 8; j++) due(x.letter(21, j), 'z' - j);
    Pages y = new Pages();
    y.refused(BAD, () -> y.letter(0, 0));
    y.refused(BAD, () -> y.letter(-1, 0));
  }

  private static void valueOfAKey() {
    Pages.sentence("The VALUE of KEY k. BAD.");
    Pages x = new Pages();
    x.refused(BAD, () -> x.value(0));
    due(x.load(0, 99, 60), 2);
    for (int k : new int[] {-1, 60, 61, LOWEST, HIGHEST}) x.refused(BAD, () -> x.value(k));
    for (int k = 0; k < 60; k++) due(x.value(k), k);
    due(x.put("a", 255), NONE);
    due(x.value(0), 255);
    due(x.value(60), 59);
    Pages y = new Pages().rise("aaaaa", 48);
    due(y.put(48, 5, 9), NONE);
    due(y.value(48), 9);
    due(y.value(49), BAD);
    due(y.value(29), 7);
  }

  // ---- pages

  private static void pageAndWhat() {
    Pages.sentence("Of a PAGE: 0 its SORT, 1 how many ENTRIES, 2 BYTE 2, 3 USED (0: it is FREE). BAD.");
    Pages x = Pages.pairs(16);
    for (int p : new int[] {-1, 32, LOWEST, HIGHEST}) for (int what = 0; what < 4; what++) due(x.page(p, what), BAD);
    for (int what : new int[] {-1, 4, LOWEST, HIGHEST}) {
      due(x.page(0, what), BAD);
      due(x.page(31, what), BAD);
    }
    int[][] want = {{1, 8, 2, 35}, {1, 8, 0, 35}, {2, 1, 0, 7}, {0, 0, 0, 0}};
    for (int p = 0; p < 4; p++) for (int what = 0; what < 4; what++) due(x.page(p, what), want[p][what]);
    for (int what = 0; what < 4; what++) due(x.page(31, what), 0);
    int[] empty = {1, 0, 0, 3};
    for (int what = 0; what < 4; what++) due(new Pages().page(0, what), empty[what]);
  }

  private static void byteOfAPage() {
    Pages.sentence("BYTE i of a PAGE. BAD.");
    Pages x = Pages.pairs(14);
    x.puts(255, "aoz");
    for (int p : new int[] {-1, 32, LOWEST, HIGHEST}) due(x.byteAt(p, 0), BAD);
    for (int i : new int[] {-1, 64, LOWEST, HIGHEST}) {
      due(x.byteAt(0, i), BAD);
      due(x.byteAt(31, i), BAD);
    }
    due(x.byteAt(0, 0), 1);
    due(x.byteAt(0, 62), 'z');
    due(x.byteAt(0, 63), 255);
    due(x.byteAt(31, 0), 0);
    due(x.byteAt(31, 63), 0);
  }

  private static void countWhat() {
    Pages.sentence("count: 0 KEYS, 1 LEVELS, 2 the ROOT, 3 FREE PAGES, 4 USED, 5 LEAVES, 6 the first LEAF, 7 letters of all SEPARATORS. BAD.");
    Pages x = new Pages();
    for (int what : new int[] {-1, 8, LOWEST, HIGHEST}) x.refused(BAD, () -> x.count(what));
    x.dueCounts(0, 1, 0, 31, 3, 1, 0, 0);
    Pages.pairs(16).dueCounts(16, 2, 2, 29, 35 + 35 + 7, 2, 0, 2);
    new Pages().rise("aaaaa", 49).dueCounts(49, 3, 12, 19, 9 * 38 + 31 + 38 + 24 + 10, 10, 0, 45);
  }

  /** The 2048 bytes are asked of six objects, for none is asked more than 512 times. */
  private static void digestOf(Pages[] same) {
    BigInteger h = BigInteger.valueOf(17);
    for (int p = 0; p < 32; p++) {
      for (int i = 0; i < 64; i++) h = h.multiply(BigInteger.valueOf(31)).add(BigInteger.valueOf(same[p / 6].byteAt(p, i)));
    }
    due(same[0].digest(), h.longValue());
  }

  private static void digestWrapsAround() {
    Pages.sentence("h = 17; then h = 31 h + b for each BYTE of each PAGE: of a long, that wraps around");
    Pages[] empty = new Pages[6], pairs = new Pages[6], last = new Pages[6];
    for (int i = 0; i < 6; i++) {
      empty[i] = new Pages();
      pairs[i] = Pages.pairs(33);
      last[i] = new Pages();
      last[i].load(17575 - 59, 1, 60);
    }
    digestOf(empty);
    digestOf(pairs);
    digestOf(last);
  }

  // ---- images

  private static void keepAnImage() {
    Pages.sentence("An IMAGE (0, 1) of all PAGES is kept: KEYS. BAD.");
    Pages x = new Pages();
    for (int image : new int[] {-1, 2, LOWEST, HIGHEST}) x.refused(BAD, () -> x.keep(image));
    x.refused(0, () -> x.keep(0));
    x.rise("aa", 16);
    x.refused(16, () -> x.keep(1));
    due(x.back(0), 0);
    x.dueCounts(0, 1, 0, 31, 3, 1, 0, 0);
    x.rise("aa", 5);
    due(x.keep(0), 5);
    due(x.back(1), 16);
    due(x.back(0), 5);
    due(x.keep(1), 5);
    due(x.back(1), 5);
  }

  private static void backToAnImage() {
    Pages.sentence("All PAGES become as an IMAGE has them: KEYS");
    Pages x = Pages.pairs(16);
    due(x.keep(1), 16);
    long digest = x.digest();
    due(x.load(0, 1, 60), 2);
    due(x.back(1), 16);
    due(x.digest(), digest);
    x.dueCounts(16, 2, 2, 29, 77, 2, 0, 2);
    due(x.path("z", 1), 1);
    due(x.take("aa"), 7);
    x.dueCounts(15, 1, 0, 31);
    due(x.back(1), 16);
    due(x.digest(), digest);
    x.dueCounts(16, 2, 2, 29, 77, 2, 0, 2);
    due(x.check(0, 0, 1), 0);
  }

  private static void backIsRefused() {
    Pages.sentence("back: BAD; STATE: none was kept");
    Pages x = Pages.pairs(16);
    x.refused(STATE, () -> x.back(0));
    x.refused(STATE, () -> x.back(1));
    due(x.keep(1), 16);
    x.refused(STATE, () -> x.back(0));
    x.refused(16, () -> x.back(1));
    for (int image : new int[] {-1, 2, LOWEST, HIGHEST}) x.refused(BAD, () -> x.back(image));
    due(x.keep(0), 16);
    x.refused(16, () -> x.back(0));
    Pages y = new Pages();
    due(y.keep(0), 0);
    y.refused(STATE, () -> y.back(1));
    y.refused(0, () -> y.back(0));
  }

  private static void timesOfAll() {
    Pages.sentence("How many bytes THE TEXT has (what = 0), how many PAGES were SPLIT so far (1), JOINED (2), SHARED when MENDED (3). BAD.");
    Pages x = Pages.pairs(15);
    for (int what : new int[] {-1, 4, LOWEST, HIGHEST}) x.refused(BAD, () -> x.times(what));
    x.dueTimes(0, 0, 0, 0);
    x.rise("ap", 2);
    x.typeAll("put");
    x.dueTimes(3, 1, 0, 0);
    due(x.take("aa"), 7);
    x.dueTimes(3, 1, 0, 1);
    due(x.take("ab"), 7);
    x.dueTimes(3, 1, 1, 1);
  }

  /** So far: a load, an image and a text that is cleared take nothing of it back; what a load shares is not mended. */
  private static void soFar() {
    Pages.sentence("times: .. so far");
    Pages x = Pages.pairs(17);
    due(x.keep(0), 17);
    due(x.take("aa"), 7);
    due(x.take("ab"), 7);
    x.dueTimes(0, 1, 1, 1);
    due(x.back(0), 17);
    x.dueTimes(0, 1, 1, 1);
    due(x.load(0, 1, 13), 2);
    x.dueTimes(0, 1, 1, 1);
    due(x.say("put zzz 1;load 0 1 12;put aaaaa 1;"), 3);
    x.dueTimes(0, 2, 1, 1);
  }

  public static void main(String[] args) {
    constants();
    badAheadOfFull();
    badAheadOfState();
    badAheadOfNone();
    typeAByte();
    clearTheText();
    putNewAndOld();
    takeAndNone();
    loadTellsLevels();
    findAndNone();
    howManyAreLess();
    howManyBeginSo();
    aValueIsNoLetter();
    rankIsBad();
    pathOnALevel();
    letterOfAKey();
    valueOfAKey();
    pageAndWhat();
    byteOfAPage();
    countWhat();
    digestWrapsAround();
    keepAnImage();
    backToAnImage();
    backIsRefused();
    timesOfAll();
    soFar();
    Pages.end();
  }
}
