import java.util.function.Supplier;

/** Each promise by itself: ordinary inputs, edges, wrong inputs; no object is asked more than 512 times. */
public final class SortedPagesPromises {
  private static final int BAD = -1, STATE = -2, FULL = -3, NONE = -9;
  private static final int LOWEST = Integer.MIN_VALUE, HIGHEST = Integer.MAX_VALUE;
  private static int wrong = 0;
  private static int promise = 0;

  private static void due(String call, long got, long want) {
    if (got != want) {
      wrong++;
      System.out.println("promise " + promise + ": " + call + " answered " + got + ", due is " + want);
    }
  }

  private static void type(SortedPages x, String text) {
    for (char c : text.toCharArray()) x.type(c);
  }

  /** The answer of run; the text is empty behind it, whatever the answer was. */
  private static int say(SortedPages x, String text) {
    type(x, text);
    int answer = x.run();
    x.clear();
    return answer;
  }

  private static void said(String text, int want) {
    due("run() of '" + text + "'", say(new SortedPages(), text), want);
  }

  /** Puts a key of any length, by a text; -1 is the value of a key to be taken. */
  private static void command(SortedPages x, String key, int value) {
    String text = value < 0 ? "take " + key + ";" : "put " + key + " " + value + ";";
    due("run() of '" + text + "'", say(x, text), 1);
  }

  private static int v(String key) {
    int v = 0;
    for (char c : key.toCharArray()) v = 26 * v + c - 'a';
    return v;
  }

  private static String pageText(SortedPages x, int p) {
    StringBuilder text = new StringBuilder();
    int at = 3, entries = x.byteAt(p, 1);
    for (int i = 0; i < entries; i++) {
      int letters = x.byteAt(p, at);
      text.append(i == 0 ? "" : " ");
      for (int j = 1; j <= letters; j++) text.append((char) x.byteAt(p, at + j));
      text.append('=').append(x.byteAt(p, at + letters + 1));
      at += letters + 2;
    }
    due("USED of page " + p, x.page(p, 3), x.byteAt(p, 0) == 0 ? 0 : at);
    for (; at < 64; at++) due("byte " + at + " behind the entries of page " + p, x.byteAt(p, at), 0);
    return text.toString();
  }

  private static void duePage(SortedPages x, int p, int sort, int link, String entries) {
    due("sort of page " + p, x.page(p, 0), sort);
    due("byte 2 of page " + p, x.page(p, 2), link);
    String got = pageText(x, p);
    if (!got.equals(entries)) {
      wrong++;
      System.out.println("promise " + promise + ": page " + p + " has '" + got + "', due is '" + entries + "'");
    }
  }

  private static void dueCounts(SortedPages x, int... want) {
    for (int what = 0; what < want.length; what++) due("count(" + what + ")", x.count(what), want[what]);
  }

  private static void dueTimes(SortedPages x, int... want) {
    for (int what = 0; what < want.length; what++) due("times(" + what + ")", x.times(what), want[what]);
  }

  private static void dueDigest(Supplier<SortedPages> made) {
    long h = 17;
    for (int p = 0; p < 32; p++) {
      SortedPages x = made.get();
      for (int i = 0; i < 64; i++) h = 31 * h + x.byteAt(p, i);
    }
    due("digest()", made.get().digest(), h);
  }

  /** Keys aa, ab, .. with values 0, 1, ..: the sixteenth splits the first leaf. */
  private static SortedPages pairs(int n) {
    SortedPages x = new SortedPages();
    for (int i = 0; i < n; i++) due("put(" + i + ", 2, " + i + ")", x.put(i, 2, i), NONE);
    return x;
  }

  private static void newObject() {
    promise = 1;
    due("BAD", SortedPages.BAD, BAD);
    due("STATE", SortedPages.STATE, STATE);
    due("FULL", SortedPages.FULL, FULL);
    due("NONE", SortedPages.NONE, NONE);
    SortedPages x = new SortedPages();
    dueCounts(x, 0, 1, 0, 31, 3, 1, 0, 0);
    dueTimes(x, 0, 0, 0, 0);
    for (int p = 0; p < 32; p++) {
      SortedPages y = new SortedPages();
      for (int i = 0; i < 64; i++) due("byteAt(" + p + ", " + i + ")", y.byteAt(p, i), p + i == 0 ? 1 : 0);
    }
    due("back(0)", x.back(0), STATE);
    due("back(1)", x.back(1), STATE);
    due("check(0, 0, 1)", x.check(0, 0, 1), 0);
  }

  private static void typing() {
    promise = 2;
    SortedPages x = new SortedPages();
    int[] bad = {-1, 256, LOWEST, HIGHEST};
    for (int c : bad) due("type(" + c + ")", x.type(c), BAD);
    due("type(0)", x.type(0), 1);
    due("type(255)", x.type(255), 2);
    for (int i = 3; i <= 120; i++) due("type(32)", x.type(32), i);
    due("type(32)", x.type(32), FULL);
    for (int c : bad) due("type(" + c + ")", x.type(c), BAD);
    dueTimes(x, 120);
  }

  private static void clearing() {
    promise = 3;
    SortedPages x = new SortedPages();
    due("clear()", x.clear(), 0);
    type(x, "put a 1;");
    due("clear()", x.clear(), 8);
    dueTimes(x, 0);
    due("clear()", x.clear(), 0);
    due("run()", x.run(), 0);
    due("find(0, 1)", x.find(0, 1), NONE);
    for (int i = 0; i < 121; i++) x.type(65);
    due("clear()", x.clear(), 120);
    due("type(65)", x.type(65), 1);
  }

  private static void running() {
    promise = 4;
    SortedPages x = new SortedPages();
    type(x, "put abc 3;  put abc 4 ;take abc;take abc; put put 0;put take 255;put load 7;");
    due("run()", x.run(), 6);
    dueTimes(x, 0);
    due("find of put", x.find(v("put"), 3), 0);
    due("find of take", x.find(v("take"), 4), 255);
    due("find of load", x.find(v("load"), 4), 7);
    due("find of abc", x.find(v("abc"), 3), NONE);
    due("run()", x.run(), 0);
    due("run() of two loads", say(x, "load 0 1 60;take aaa;load 17575 99 1;"), 3);
    duePage(x, 0, 1, 0, "zzz=0");
    long before = x.digest();
    type(x, "put a 1;take zzz;put b");
    due("run()", x.run(), -10 - 22);
    due("digest()", x.digest(), before);
    dueTimes(x, 22);
    type(x, " 2;");
    due("run()", x.run(), 3);
    due("count(0)", x.count(0), 2);
    fullIsPassedOver();
    rightTexts();
    faults();
  }

  private static void fullIsPassedOver() {
    SortedPages x = untilFull();
    due("run() of a put that is new", say(x, "put zzzzz 1;"), 0);
    due("run() of puts and takes", say(x, "put aaaaa 9;put zzzzz 1;take zzzzz;take aaaaa;put zz 1;"), 2);
  }

  private static void rightTexts() {
    said("", 0);
    said("    ", 0);
    said("put a 0;", 1);
    said("put a 255;", 1);
    said(" put  a  255  ; ", 1);
    said("put a1;", 1);
    said("put abcdefgh 1;take abcdefgh;", 2);
    said("load 0 1 1;load 17575 1 1;load 11734 99 60;load 0 99 60;", 4);
    said("load 17516 1 60;", 1);
    StringBuilder many = new StringBuilder();
    for (int i = 0; i < 17; i++) many.append("put ").append((char) ('a' + i)).append("1;");
    said(many.toString(), 17);
  }

  private static void faults() {
    String[] texts = {"x;", ";", "puts a 1;", "pu a 1;", "PUT a 1;", "1;", "put", "put ", "put  ;", "put 1 1;", "put a", "put a;",
      "put a b;", "put a 256;", "put a 01;", "put a 00;", "put a 100000;", "put a 99999;", "put a 4294967297;", "put a 1",
      "put a 1 1;", "put a 1;;", "put a 1;x", "put abcdefghi 1;", "put a -1;", "put a 1A;", "put aB 1;", "take", "take;",
      "take a", "take a 1;", "take abcdefghi;", "load", "load a 1 1;", "load 17576 1 1;", "load 1", "load 1 0 1;",
      "load 1 100 1;", "load 1 1", "load 1 1 0;", "load 1 1 61;", "load 1 1 1", "load 1 1 1 1;", "load 17575 1 2;",
      "load 17476 99 3;", "load 17517 1 60;", "load 1 1;", "\t", "put a 1;\n", "load 11735 99 60;", "x; A", "A x;"};
    int[] places = {0, 0, 0, 0, 0, 0, 3, 4, 5, 4, 5, 5,
      6, 6, 6, 6, 6, 6, 6, 7,
      8, 8, 8, 4, 6, 7, 5, 4, 4,
      6, 7, 5, 4, 5, 5, 6, 7,
      7, 8, 9, 9, 10, 11, 13,
      14, 13, 8, 0, 8, 14, 0, 0};
    for (int i = 0; i < texts.length; i++) said(texts[i], -10 - places[i]);
    SortedPages x = new SortedPages();
    for (int i = 0; i < 120; i++) x.type(';' - (i < 119 ? 27 : 0));
    due("run() with a ; at the end of 119 blanks", x.run(), -10 - 119);
  }

  /** Keys of five letters in rising order, till one does not come in any more. */
  private static SortedPages untilFull() {
    SortedPages x = new SortedPages();
    int i = 0;
    for (; i < 400 && x.count(3) > x.count(1); i++) due("put(" + i + ", 5, ..)", x.put(i, 5, i & 255), NONE);
    due("put(" + i + ", 5, 0)", x.put(i, 5, 0), FULL);
    due("FREE pages are as many as levels", x.count(3), x.count(1));
    due("keys", x.count(0), i);
    return x;
  }

  private static void putting() {
    promise = 5;
    SortedPages x = new SortedPages();
    due("put(0, 1, 256)", x.put(0, 1, 256), BAD);
    due("put(0, 1, -1)", x.put(0, 1, -1), BAD);
    badKeys(x, 5);
    dueCounts(x, 0);
    due("put(25, 1, 0)", x.put(25, 1, 0), NONE);
    due("put(25, 1, 255)", x.put(25, 1, 255), 0);
    due("put(25, 1, 255)", x.put(25, 1, 255), 255);
    due("put(11881375, 5, 1)", x.put(11881375, 5, 1), NONE);
    due("put(0, 5, 2)", x.put(0, 5, 2), NONE);
    due("put(0, 4, 3)", x.put(0, 4, 3), NONE);
    duePage(x, 0, 1, 0, "aaaa=3 aaaaa=2 z=255 zzzzz=1");
    splits();
    innerSplit();
    longKeysSplitUnevenly();
    x = untilFull();
    long before = x.digest();
    due("put of a new key", x.put(11881375, 5, 1), FULL);
    due("put of a new short key", x.put(25, 1, 1), FULL);
    due("put of BAD value", x.put(25, 1, 256), BAD);
    due("digest()", x.digest(), before);
    due("put of an old key", x.put(3, 5, 200), 3);
    due("find(3, 5)", x.find(3, 5), 200);
    due("check(0, 0, 1)", x.check(0, 0, 1), 0);
  }

  private static void splits() {
    SortedPages x = pairs(15);
    due("page(0, 3)", x.page(0, 3), 63);
    dueCounts(x, 15, 1, 0, 31, 63, 1, 0, 0);
    x.put(15, 2, 15);
    duePage(x, 0, 1, 2, "aa=0 ab=1 ac=2 ad=3 ae=4 af=5 ag=6 ah=7");
    duePage(x, 1, 1, 0, "ai=8 aj=9 ak=10 al=11 am=12 an=13 ao=14 ap=15");
    duePage(x, 2, 2, 0, "ai=1");
    dueCounts(x, 16, 2, 2, 29, 77, 2, 0, 2);
    dueTimes(x, 0, 1, 0, 0);
    x.put(26, 1, 1);
    due("put(26, 1, 1)", x.put(26, 1, 1), BAD);
    for (int i = 16; i < 24; i++) x.put(i + 10, 2, i);
    duePage(x, 1, 1, 4, "ai=8 aj=9 ak=10 al=11 am=12 an=13 ao=14 ap=15");
    duePage(x, 3, 1, 0, "ba=16 bb=17 bc=18 bd=19 be=20 bf=21 bg=22 bh=23");
    duePage(x, 2, 2, 0, "ai=1 b=3");
    SortedPages y = pairs(16);
    for (int i = 0; i < 8; i++) y.put(26 * i, 3, i);
    duePage(y, 0, 1, 4, "aa=0 aaa=0 ab=1 aba=1 ac=2 aca=2 ad=3");
    duePage(y, 3, 1, 2, "ada=3 ae=4 aea=4 af=5 afa=5 ag=6 aga=6 ah=7 aha=7");
    duePage(y, 2, 2, 0, "ada=3 ai=1");
  }

  /** Nine separators of five letters: the ninth splits the root; five have half of all or more, the sixth goes up. */
  private static void innerSplit() {
    SortedPages x = new SortedPages();
    int i = 0;
    for (; i < 400 && x.count(1) < 3; i++) x.put(i, 5, 0);
    due("keys when there are three levels", x.count(0), 49);
    dueCounts(x, 49, 3, 12, 19);
    duePage(x, 12, 2, 2, "aaabe=11");
    duePage(x, 2, 2, 0, "aaaaf=1 aaaak=3 aaaap=4 aaaau=5 aaaaz=6");
    duePage(x, 11, 2, 7, "aaabj=8 aaabo=9 aaabt=10");
    dueTimes(x, 0, 10, 0, 0);
    due("check(0, 0, 1)", x.check(0, 0, 1), 0);
  }

  private static void longKeysSplitUnevenly() {
    SortedPages x = new SortedPages();
    command(x, "a", 1);
    command(x, "b", 2);
    for (int i = 0; i < 5; i++) command(x, "zzzzzzz" + (char) ('a' + i), i);
    due("page(0, 3)", x.page(0, 3), 59);
    command(x, "zzzzzzzf", 5);
    duePage(x, 0, 1, 2, "a=1 b=2 zzzzzzza=0 zzzzzzzb=1 zzzzzzzc=2");
    duePage(x, 1, 1, 0, "zzzzzzzd=3 zzzzzzze=4 zzzzzzzf=5");
    duePage(x, 2, 2, 0, "zzzzzzzd=1");
    SortedPages y = new SortedPages();
    for (int i = 0; i < 3; i++) command(y, "aaaaaaa" + (char) ('a' + i), i);
    command(y, "aa", 3);
    command(y, "b", 4);
    for (int i = 0; i < 3; i++) command(y, "bbbbbbb" + (char) ('a' + i), i);
    duePage(y, 0, 1, 2, "aa=3 aaaaaaaa=0 aaaaaaab=1 aaaaaaac=2");
    duePage(y, 1, 1, 0, "b=4 bbbbbbba=0 bbbbbbbb=1 bbbbbbbc=2");
    duePage(y, 2, 2, 0, "b=1");
  }

  /** Which: 5 put, 6 take, 8 find, 9 rank, 10 path. */
  private static void badKeys(SortedPages x, int which) {
    int[][] all = {{0, 0}, {0, 6}, {0, -1}, {0, LOWEST}, {0, HIGHEST}, {-1, 1}, {-1, 5}, {26, 1}, {676, 2}, {17576, 3},
      {456976, 4}, {11881376, 5}, {LOWEST, 3}, {HIGHEST, 5}, {HIGHEST, 1}};
    long before = x.digest();
    for (int[] k : all) {
      int got = which == 5 ? x.put(k[0], k[1], 0) : which == 6 ? x.take(k[0], k[1]) : which == 8 ? x.find(k[0], k[1])
        : which == 9 ? x.rank(k[0], k[1], 0) : x.path(k[0], k[1], 0);
      due("the key " + k[0] + ", " + k[1], got, BAD);
    }
    due("digest()", x.digest(), before);
  }

  private static void taking() {
    promise = 6;
    SortedPages x = pairs(3);
    badKeys(x, 6);
    due("take(3, 2)", x.take(3, 2), NONE);
    due("take(0, 1)", x.take(0, 1), NONE);
    due("take(0, 3)", x.take(0, 3), NONE);
    due("take(1, 2)", x.take(1, 2), 1);
    due("take(1, 2)", x.take(1, 2), NONE);
    duePage(x, 0, 1, 0, "aa=0 ac=2");
    x.take(0, 2);
    due("take(2, 2)", x.take(2, 2), 2);
    dueCounts(x, 0, 1, 0, 31, 3, 1, 0, 0);
    dueTimes(x, 0, 0, 0, 0);
    joins();
    shares();
    joinsUpTo61();
    mendsOnlyBelow32();
    innersJoin();
    innersShare();
    staysAsItIs();
  }

  private static void joins() {
    SortedPages x = pairs(16);
    due("take(0, 2)", x.take(0, 2), 0);
    duePage(x, 0, 1, 0, "ab=1 ac=2 ad=3 ae=4 af=5 ag=6 ah=7 ai=8 aj=9 ak=10 al=11 am=12 an=13 ao=14 ap=15");
    dueCounts(x, 15, 1, 0, 31, 63, 1, 0, 0);
    duePage(x, 1, 0, 0, "");
    duePage(x, 2, 0, 0, "");
    dueTimes(x, 0, 1, 1, 0);
    SortedPages y = pairs(24);
    duePage(y, 2, 2, 0, "ai=1 aq=3");
    due("take(23, 2)", y.take(23, 2), 23);
    duePage(y, 1, 1, 0, "ai=8 aj=9 ak=10 al=11 am=12 an=13 ao=14 ap=15 aq=16 ar=17 as=18 at=19 au=20 av=21 aw=22");
    duePage(y, 2, 2, 0, "ai=1");
    duePage(y, 3, 0, 0, "");
    dueCounts(y, 23, 2, 2, 29);
    SortedPages z = pairs(24);
    z.take(8, 2);
    duePage(z, 1, 1, 0, "aj=9 ak=10 al=11 am=12 an=13 ao=14 ap=15 aq=16 ar=17 as=18 at=19 au=20 av=21 aw=22 ax=23");
    duePage(z, 0, 1, 2, "aa=0 ab=1 ac=2 ad=3 ae=4 af=5 ag=6 ah=7");
    duePage(z, 2, 2, 0, "ai=1");
  }

  private static void shares() {
    SortedPages x = pairs(17);
    x.take(0, 2);
    duePage(x, 0, 1, 2, "ab=1 ac=2 ad=3 ae=4 af=5 ag=6 ah=7 ai=8");
    duePage(x, 1, 1, 0, "aj=9 ak=10 al=11 am=12 an=13 ao=14 ap=15 aq=16");
    duePage(x, 2, 2, 0, "aj=1");
    dueTimes(x, 0, 1, 0, 1);
    SortedPages y = pairs(16);
    for (int i = 0; i < 3; i++) y.put(i, 3, 50 + i);
    y.take(15, 2);
    duePage(y, 0, 1, 2, "aa=0 aaa=50 aab=51 aac=52 ab=1 ac=2 ad=3 ae=4 af=5");
    duePage(y, 1, 1, 0, "ag=6 ah=7 ai=8 aj=9 ak=10 al=11 am=12 an=13 ao=14");
    duePage(y, 2, 2, 0, "ag=1");
    for (int i = 14; i > 11; i--) y.take(i, 2);
    due("USED stays below 32, shared as it is", y.page(1, 3), 31);
    dueTimes(y, 0, 1, 0, 3);
    y.take(11, 2);
    dueTimes(y, 0, 1, 1, 3);
  }

  /** With aaa for aa, 33 bytes and 28 come into one page; with aaaa for it, one byte is too many. */
  private static void joinsUpTo61() {
    for (int letters = 3; letters <= 4; letters++) {
      SortedPages x = pairs(16);
      x.put(0, letters, 50);
      x.take(0, 2);
      x.take(15, 2);
      dueTimes(x, 0, 1, letters == 3 ? 1 : 0, letters == 3 ? 0 : 1);
      due("page(0, 3)", x.page(0, 3), letters == 3 ? 64 : 37);
    }
  }

  private static void mendsOnlyBelow32() {
    SortedPages x = new SortedPages();
    for (int i = 0; i < 13; i++) x.put(i, 3, i);
    duePage(x, 0, 1, 2, "aaa=0 aab=1 aac=2 aad=3 aae=4 aaf=5 aag=6");
    duePage(x, 1, 1, 0, "aah=7 aai=8 aaj=9 aak=10 aal=11 aam=12");
    x.take(7, 3);
    dueTimes(x, 0, 1, 1, 0);
    SortedPages y = pairs(16);
    y.put(1, 1, 99);
    y.take(8, 2);
    due("page(1, 3)", y.page(1, 3), 34);
    dueTimes(y, 0, 1, 0, 0);
    SortedPages z = new SortedPages();
    command(z, "aa", 0);
    for (int i = 0; i < 15; i++) command(z, "a" + (char) ('b' + i), i);
    command(z, "bbb", 1);
    command(z, "ap", -1);
    due("page(1, 3)", z.page(1, 3), 36);
    command(z, "ao", -1);
    due("USED is 32 and stays", z.page(1, 3), 32);
    dueTimes(z, 0, 1, 0, 0);
    command(z, "bbb", -1);
    dueTimes(z, 0, 1, 1, 0);
  }

  /** A leaf is shared, then joined; by that the inner page is, and with its separator they all come into one. */
  private static void innersJoin() {
    SortedPages x = new SortedPages();
    for (int i = 0; i < 49; i++) x.put(i, 5, 0);
    x.take(0, 5);
    dueTimes(x, 0, 10, 0, 1);
    duePage(x, 2, 2, 0, "aaaag=1 aaaak=3 aaaap=4 aaaau=5 aaaaz=6");
    x.take(1, 5);
    dueTimes(x, 0, 10, 2, 1);
    dueCounts(x, 47, 2, 2, 22);
    duePage(x, 12, 0, 0, "");
    duePage(x, 11, 0, 0, "");
    duePage(x, 1, 0, 0, "");
    duePage(x, 2, 2, 0, "aaaak=3 aaaap=4 aaaau=5 aaaaz=6 aaabe=7 aaabj=8 aaabo=9 aaabt=10");
    duePage(x, 0, 1, 4, "aaaac=0 aaaad=0 aaaae=0 aaaaf=0 aaaag=0 aaaah=0 aaaai=0 aaaaj=0");
    due("check(0, 0, 1)", x.check(0, 0, 1), 0);
  }

  private static void innersShare() {
    SortedPages x = new SortedPages();
    for (int i = 0; i < 70; i++) x.put(i, 5, 0);
    duePage(x, 12, 2, 2, "aaabe=11");
    duePage(x, 11, 2, 7, "aaabj=8 aaabo=9 aaabt=10 aaaby=13 aaacd=14 aaaci=15 aaacn=16");
    x.take(0, 5);
    x.take(1, 5);
    dueTimes(x, 0, 14, 1, 2);
    duePage(x, 12, 2, 2, "aaabo=11");
    duePage(x, 2, 2, 0, "aaaak=3 aaaap=4 aaaau=5 aaaaz=6 aaabe=7 aaabj=8");
    duePage(x, 11, 2, 9, "aaabt=10 aaaby=13 aaacd=14 aaaci=15 aaacn=16");
    due("check(0, 0, 1)", x.check(0, 0, 1), 0);
  }

  /** Keys of this head and a last letter more, from and to such letters, by texts as short as they may be. */
  private static void longKeys(SortedPages x, String head, char from, char to) {
    int commands = 0;
    for (char c = from; c <= to; c++) {
      type(x, "put " + head + c + (c - 'a') + ";");
      commands++;
      if (commands == 7 || c == to) {
        due("run() of long keys", x.run(), commands);
        commands = 0;
      }
    }
  }

  private static void shortKeys(SortedPages x, char from, char to) {
    for (char c = from; c <= to; c++) due("put of " + c, x.put(c - 'a', 1, c - 'a'), NONE);
  }

  private static SortedPages fiveLongSeparators() {
    SortedPages x = new SortedPages();
    longKeys(x, "aaaaaaa", 'a', 'v');
    shortKeys(x, 'b', 'o');
    return x;
  }

  /** With so many taken, from p down; each look at a page needs a tree of its own, for 512 calls are few. */
  private static SortedPages longNeighbour(int taken) {
    SortedPages x = fiveLongSeparators();
    longKeys(x, "zzzzzzz", 'a', 'c');
    shortKeys(x, 'p', 'p');
    longKeys(x, "zzzzzzz", 'd', 'f');
    for (int i = 15; i > 15 - taken; i--) due("take(" + i + ", 1)", x.take(i, 1), i);
    return x;
  }

  /** The separator z would become one of eight letters, and the root have 66 bytes. */
  private static void staysAsItIs() {
    String root = "aaaaaaae=1 aaaaaaai=3 aaaaaaam=4 aaaaaaaq=5 aaaaaaau=6 f=7 z=8";
    duePage(longNeighbour(0), 2, 2, 0, root);
    due("USED of the root", longNeighbour(0).page(2, 3), 59);
    duePage(longNeighbour(2), 7, 1, 9, "f=5 g=6 h=7 i=8 j=9 k=10 l=11 m=12 n=13");
    duePage(longNeighbour(2), 8, 1, 0, "zzzzzzza=0 zzzzzzzb=1 zzzzzzzc=2 zzzzzzzd=3 zzzzzzze=4 zzzzzzzf=5");
    duePage(longNeighbour(2), 2, 2, 0, root);
    dueTimes(longNeighbour(2), 0, 7, 0, 0);
    SortedPages x = longNeighbour(3);
    duePage(x, 7, 1, 9, "f=5 g=6 h=7 i=8 j=9 k=10 l=11 m=12");
    due("check(0, 0, 1)", x.check(0, 0, 1), 0);
    due("no page stays without entries", longNeighbour(11).check(0, 0, 1), 0);
    justComesIn();
  }

  private static SortedPages shorterNeighbour(int taken) {
    SortedPages x = fiveLongSeparators();
    longKeys(x, "zzzzz", 'a', 'c');
    shortKeys(x, 'p', 'r');
    longKeys(x, "zzzzz", 'd', 'e');
    int[] order = {16, 17, 15, 14};
    for (int i = 0; i < taken; i++) due("take(" + order[i] + ", 1)", x.take(order[i], 1), order[i]);
    return x;
  }

  /** With keys of six letters the root has 64 bytes then, which is not too many. */
  private static void justComesIn() {
    duePage(shorterNeighbour(0), 2, 2, 0, "aaaaaaae=1 aaaaaaai=3 aaaaaaam=4 aaaaaaaq=5 aaaaaaau=6 f=7 q=8");
    dueTimes(shorterNeighbour(3), 0, 7, 0, 0);
    dueTimes(shorterNeighbour(4), 0, 7, 0, 1);
    duePage(shorterNeighbour(4), 2, 2, 0, "aaaaaaae=1 aaaaaaai=3 aaaaaaam=4 aaaaaaaq=5 aaaaaaau=6 f=7 zzzzzb=8");
    due("USED of the root", shorterNeighbour(4).page(2, 3), 64);
    duePage(shorterNeighbour(4), 7, 1, 9, "f=5 g=6 h=7 i=8 j=9 k=10 l=11 m=12 n=13 zzzzza=0");
    duePage(shorterNeighbour(4), 8, 1, 0, "zzzzzb=1 zzzzzc=2 zzzzzd=3 zzzzze=4");
    due("check(0, 0, 1)", shorterNeighbour(4).check(0, 0, 1), 0);
  }

  private static void loading() {
    promise = 7;
    SortedPages x = pairs(20);
    long before = x.digest();
    int[][] bad = {{-1, 1, 1}, {17576, 1, 1}, {0, 0, 1}, {0, -1, 1}, {0, 100, 1}, {0, 1, 0}, {0, 1, -1}, {0, 1, 61}, {17575, 1, 2},
      {17517, 1, 60}, {11735, 99, 60}, {LOWEST, 1, 1}, {HIGHEST, 1, 2}, {0, LOWEST, 1}, {0, HIGHEST, 60}, {0, 1, LOWEST}, {0, 1, HIGHEST}};
    for (int[] b : bad) due("load(" + b[0] + ", " + b[1] + ", " + b[2] + ")", x.load(b[0], b[1], b[2]), BAD);
    due("digest()", x.digest(), before);
    due("load(17516, 1, 60)", x.load(17516, 1, 60), 2);
    due("letter(59, 2)", x.letter(59, 2), 'z');
    due("load(11734, 99, 60)", x.load(11734, 99, 60), 2);
    due("find(17575, 3)", x.find(17575, 3), 59);
    due("load(17575, 99, 1)", x.load(17575, 99, 1), 1);
    duePage(x, 0, 1, 0, "zzz=0");
    dueCounts(x, 1, 1, 0, 31, 8, 1, 0, 0);
    dueTimes(x, 0, 1, 0, 0);
    due("load(0, 1, 12)", x.load(0, 1, 12), 1);
    due("page(0, 3)", x.page(0, 3), 63);
    due("load(24, 1, 13)", x.load(24, 1, 13), 2);
    duePage(x, 0, 1, 2, "aay=0 aaz=1 aba=2 abb=3 abc=4 abd=5 abe=6");
    duePage(x, 1, 1, 0, "abf=7 abg=8 abh=9 abi=10 abj=11 abk=12");
    duePage(x, 2, 2, 0, "abf=1");
    loadedLeaves(new SortedPages());
  }

  private static void loadedLeaves(SortedPages x) {
    int[] keys = {13, 17, 18, 29, 30, 41, 42, 53, 54, 60};
    int[][] leaves = {{7, 6}, {9, 8}, {12, 6}, {12, 9, 8}, {12, 12, 6}, {12, 12, 9, 8}, {12, 12, 12, 6}, {12, 12, 12, 9, 8},
      {12, 12, 12, 12, 6}, {12, 12, 12, 12, 12}};
    for (int i = 0; i < keys.length; i++) {
      due("load(0, 99, " + keys[i] + ")", x.load(0, 99, keys[i]), 2);
      for (int p = 0; p < leaves[i].length; p++) {
        due("page(" + p + ", 1) of " + keys[i] + " keys", x.page(p, 1), leaves[i][p]);
        due("page(" + p + ", 2) of " + keys[i] + " keys", x.page(p, 2), p + 1 < leaves[i].length ? p + 2 : 0);
      }
      dueCounts(x, keys[i], 2, leaves[i].length, 31 - leaves[i].length);
      due("check(0, 0, 1)", x.check(0, 0, 1), 0);
    }
    due("load(0, 1, 60)", x.load(0, 1, 60), 2);
    duePage(x, 5, 2, 0, "aam=1 aay=2 abk=3 abw=4");
    due("load(0, 99, 60)", x.load(0, 99, 60), 2);
    duePage(x, 5, 2, 0, "bt=1 dn=2 fh=3 h=4");
  }

  private static void finding() {
    promise = 8;
    SortedPages x = pairs(40);
    badKeys(x, 8);
    for (int i = 0; i < 40; i++) due("find(" + i + ", 2)", x.find(i, 2), i);
    due("find(40, 2)", x.find(40, 2), NONE);
    due("find(675, 2)", x.find(675, 2), NONE);
    due("find(0, 1)", x.find(0, 1), NONE);
    due("find(0, 3)", x.find(0, 3), NONE);
    due("find(1, 1)", x.find(1, 1), NONE);
    x.put(0, 5, 255);
    x.put(11881375, 5, 254);
    due("find(0, 5)", x.find(0, 5), 255);
    due("find(11881375, 5)", x.find(11881375, 5), 254);
  }

  private static void ranking() {
    promise = 9;
    SortedPages x = pairs(40);
    badKeys(x, 9);
    int[] bad = {-1, 2, LOWEST, HIGHEST};
    for (int what : bad) due("rank(0, 1, " + what + ")", x.rank(0, 1, what), BAD);
    for (int i = 0; i < 40; i++) due("rank(" + i + ", 2, 0)", x.rank(i, 2, 0), i);
    due("rank(675, 2, 0)", x.rank(675, 2, 0), 40);
    due("rank of aaa", x.rank(0, 3, 0), 1);
    due("rank of a", x.rank(0, 1, 0), 0);
    due("rank of b", x.rank(1, 1, 0), 26);
    due("those with a", x.rank(0, 1, 1), 26);
    due("those with b", x.rank(1, 1, 1), 14);
    due("those with c", x.rank(2, 1, 1), 0);
    due("those with ab", x.rank(1, 2, 1), 1);
    due("those with aaa", x.rank(0, 3, 1), 0);
    command(x, "abababab", 1);
    due("those with ab", x.rank(1, 2, 1), 2);
    due("those with ababa", x.rank(v("ababa"), 5, 1), 1);
    due("those with ababb", x.rank(v("ababb"), 5, 1), 0);
    due("rank of ababb", x.rank(v("ababb"), 5, 0), 3);
    due("rank of ababa", x.rank(v("ababa"), 5, 0), 2);
  }

  private static void goingDown() {
    promise = 10;
    SortedPages x = pairs(16);
    badKeys(x, 10);
    due("path(0, 1, -1)", x.path(0, 1, -1), BAD);
    due("path(0, 1, LOWEST)", x.path(0, 1, LOWEST), BAD);
    due("path(26, 1, 9)", x.path(26, 1, 9), BAD);
    due("path(0, 1, 0)", x.path(0, 1, 0), 2);
    due("path(0, 1, 1)", x.path(0, 1, 1), 0);
    due("path(7, 2, 1)", x.path(7, 2, 1), 0);
    due("path of the separator ai", x.path(8, 2, 1), 1);
    due("path of ahzzz", x.path(v("ahzzz"), 5, 1), 0);
    due("path of z", x.path(25, 1, 1), 1);
    due("path(0, 1, 2)", x.path(0, 1, 2), NONE);
    due("path(0, 1, HIGHEST)", x.path(0, 1, HIGHEST), NONE);
    SortedPages y = new SortedPages();
    due("path(0, 1, 0)", y.path(0, 1, 0), 0);
    due("path(0, 1, 1)", y.path(0, 1, 1), NONE);
    for (int i = 0; i < 49; i++) y.put(i, 5, 0);
    due("path of aaabd on 0", y.path(v("aaabd"), 5, 0), 12);
    due("path of aaabd on 1", y.path(v("aaabd"), 5, 1), 2);
    due("path of aaabd on 2", y.path(v("aaabd"), 5, 2), 6);
    due("path of aaabe on 1", y.path(v("aaabe"), 5, 1), 11);
    due("path of aaabe on 2", y.path(v("aaabe"), 5, 2), 7);
    due("path of zz on 2", y.path(v("zz"), 2, 2), 10);
    due("path of zz on 3", y.path(v("zz"), 2, 3), NONE);
  }

  private static void lettersAndValues() {
    SortedPages x = pairs(20);
    command(x, "zyxwvuts", 77);
    promise = 11;
    int[] bad = {-1, 21, LOWEST, HIGHEST};
    for (int k : bad) due("letter(" + k + ", 0)", x.letter(k, 0), BAD);
    int[] badLetters = {-1, 8, LOWEST, HIGHEST};
    for (int j : badLetters) due("letter(0, " + j + ")", x.letter(0, j), BAD);
    for (int k = 0; k < 20; k++) {
      due("letter(" + k + ", 0)", x.letter(k, 0), 'a');
      due("letter(" + k + ", 1)", x.letter(k, 1), 'a' + k);
      for (int j = 2; j < 8; j++) due("letter(" + k + ", " + j + ")", x.letter(k, j), NONE);
    }
    for (int j = 0; j < 8; j++) due("letter(20, " + j + ")", x.letter(20, j), 'z' - j);
    promise = 12;
    for (int k : bad) due("value(" + k + ")", x.value(k), BAD);
    for (int k = 0; k < 20; k++) due("value(" + k + ")", x.value(k), k);
    due("value(20)", x.value(20), 77);
    due("value(0) of none", new SortedPages().value(0), BAD);
  }

  private static void lookingAtPages() {
    promise = 13;
    SortedPages x = pairs(16);
    int[] badPages = {-1, 32, LOWEST, HIGHEST};
    for (int p : badPages) for (int what = 0; what < 4; what++) due("page(" + p + ", " + what + ")", x.page(p, what), BAD);
    int[] badWhats = {-1, 4, LOWEST, HIGHEST};
    for (int what : badWhats) due("page(0, " + what + ")", x.page(0, what), BAD);
    int[][] want = {{1, 8, 2, 35}, {1, 8, 0, 35}, {2, 1, 0, 7}, {0, 0, 0, 0}};
    for (int p = 0; p < 4; p++) for (int what = 0; what < 4; what++) due("page(" + p + ", " + what + ")", x.page(p, what), want[p][what]);
    due("page(31, 0)", x.page(31, 0), 0);
    due("page(0, 3) of a new one", new SortedPages().page(0, 3), 3);
    promise = 14;
    for (int p : badPages) due("byteAt(" + p + ", 0)", x.byteAt(p, 0), BAD);
    int[] badBytes = {-1, 64, LOWEST, HIGHEST};
    for (int i : badBytes) due("byteAt(0, " + i + ")", x.byteAt(0, i), BAD);
    int[] bytes = {2, 1, 0, 2, 'a', 'i', 1, 0};
    for (int i = 0; i < bytes.length; i++) due("byteAt(2, " + i + ")", x.byteAt(2, i), bytes[i]);
    due("byteAt(31, 63)", x.byteAt(31, 63), 0);
    x.load(0, 1, 12);
    x.put(26, 2, 1);
    x.load(1, 1, 12);
    due("byteAt(0, 62)", x.byteAt(0, 62), 11);
    due("byteAt(0, 63)", x.byteAt(0, 63), 0);
  }

  private static void dueCheck(SortedPages x, int p, int i, int v, int want) {
    due("check(" + p + ", " + i + ", " + v + ")", x.check(p, i, v), want);
  }

  private static void checking() {
    promise = 15;
    SortedPages x = pairs(16);
    long before = x.digest();
    int[][] bad = {{-1, 0, 0}, {32, 0, 0}, {0, -1, 0}, {0, 64, 0}, {0, 0, -1}, {0, 0, 256}, {LOWEST, HIGHEST, LOWEST}, {HIGHEST, LOWEST, HIGHEST}};
    for (int[] b : bad) dueCheck(x, b[0], b[1], b[2], BAD);
    for (int p = 0; p < 32; p++) for (int i = 0; i < 64; i += 15) dueCheck(x, p, i, x.byteAt(p, i), 0);
    dueCheck(x, 2, 0, 1, 102);
    dueCheck(x, 2, 0, 0, 102);
    dueCheck(x, 0, 0, 2, 100);
    dueCheck(x, 1, 0, 3, 101);
    dueCheck(x, 2, 1, 0, 202);
    dueCheck(x, 2, 1, 2, 202);
    dueCheck(x, 2, 63, 1, 202);
    dueCheck(x, 0, 1, 0, 200);
    dueCheck(x, 0, 1, 7, 200);
    dueCheck(x, 0, 1, 255, 200);
    dueCheck(x, 0, 3, 0, 200);
    dueCheck(x, 0, 3, 9, 200);
    dueCheck(x, 0, 4, 96, 200);
    dueCheck(x, 0, 4, 123, 200);
    dueCheck(x, 0, 35, 1, 200);
    dueCheck(x, 0, 5, 'b', 300);
    dueCheck(x, 0, 4, 'z', 300);
    dueCheck(x, 0, 33, 'g', 300);
    dueCheck(x, 0, 33, 'i', 400);
    dueCheck(x, 0, 33, 'z', 400);
    dueCheck(x, 1, 5, 'h', 401);
    dueCheck(x, 2, 5, 'h', 400);
    dueCheck(x, 2, 5, 'j', 401);
    dueCheck(x, 2, 4, 'b', 401);
    dueCheck(x, 2, 2, 32, 502);
    dueCheck(x, 2, 2, 255, 502);
    dueCheck(x, 2, 2, 2, 502);
    dueCheck(x, 2, 2, 1, 502);
    dueCheck(x, 2, 6, 0, 502);
    dueCheck(x, 2, 6, 31, 131);
    dueCheck(x, 2, 2, 3, 103);
    dueCheck(x, 0, 2, 0, 600);
    dueCheck(x, 0, 2, 1, 600);
    dueCheck(x, 1, 2, 1, 601);
    dueCheck(x, 3, 0, 1, 703);
    dueCheck(x, 31, 63, 1, 731);
    dueCheck(x, 0, 6, 255, 0);
    due("digest()", x.digest(), before);
    SortedPages y = new SortedPages();
    dueCheck(y, 0, 1, 1, 200);
    dueCheck(y, 0, 3, 1, 200);
    dueCheck(y, 0, 2, 1, 600);
    dueCheck(y, 0, 0, 2, 100);
    checkingThreeLevels();
    checkingTheLastByte();
  }

  private static void checkingThreeLevels() {
    SortedPages x = new SortedPages();
    for (int i = 0; i < 49; i++) x.put(i, 5, 0);
    dueCheck(x, 12, 0, 1, 112);
    dueCheck(x, 2, 0, 1, 102);
    dueCheck(x, 11, 0, 0, 111);
    dueCheck(x, 12, 2, 0, 100);
    dueCheck(x, 12, 2, 11, 512);
    dueCheck(x, 12, 8, 'z', 411);
    dueCheck(x, 12, 8, 'd', 406);
    dueCheck(x, 12, 8, 'a', 406);
    dueCheck(x, 12, 7, 'a', 402);
    dueCheck(x, 2, 2, 12, 502);
    dueCheck(x, 2, 2, 2, 502);
    dueCheck(x, 11, 2, 6, 511);
    dueCheck(x, 2, 2, 7, 407);
    // page 11 is a child of the root that the walk has not come to yet: it is wrong itself, for it is no leaf
    dueCheck(x, 2, 2, 11, 111);
    dueCheck(x, 7, 8, 'd', 407);
    dueCheck(x, 6, 2, 0, 606);
    dueCheck(x, 10, 2, 1, 610);
  }

  /** A page that has all its 64 bytes: an entry more, or a longer one, goes beyond them. */
  private static void checkingTheLastByte() {
    SortedPages x = new SortedPages();
    for (int i = 0; i < 14; i++) x.put(i, 2, i);
    command(x, "bbb", 9);
    due("page(0, 3)", x.page(0, 3), 64);
    dueCheck(x, 0, 63, 255, 0);
    dueCheck(x, 0, 63, 0, 0);
    dueCheck(x, 0, 62, 'z', 0);
    dueCheck(x, 0, 1, 16, 200);
    dueCheck(x, 0, 59, 4, 200);
    dueCheck(x, 0, 59, 2, 200);
    dueCheck(x, 0, 1, 14, 200);
    SortedPages y = new SortedPages();
    y.put(0, 2, 0);
    dueCheck(y, 0, 3, 1, 0);
    dueCheck(y, 0, 3, 3, 200);
  }

  private static void counting() {
    promise = 16;
    SortedPages x = pairs(16);
    int[] bad = {-1, 8, LOWEST, HIGHEST};
    for (int what : bad) due("count(" + what + ")", x.count(what), BAD);
    dueCounts(x, 16, 2, 2, 29, 77, 2, 0, 2);
    SortedPages y = new SortedPages();
    for (int i = 48; i >= 0; i--) y.put(i, 5, 0);
    due("check(0, 0, 1)", y.check(0, 0, 1), 0);
    due("count(0)", y.count(0), 49);
    int leaf = y.count(2), used = 0, leaves = 0, letters = 0, free = 0;
    for (int level = 1; level < y.count(1); level++) leaf = y.page(leaf, 2);
    for (int p = 0; p < 32; p++) {
      used += y.page(p, 3);
      leaves += y.page(p, 0) == 1 ? 1 : 0;
      free += y.page(p, 0) == 0 ? 1 : 0;
      if (y.page(p, 0) == 2) letters += 5 * y.page(p, 1);
    }
    dueCounts(y, 49, y.count(1), y.path(0, 1, 0), free, used, leaves, leaf, letters);
  }

  private static void digesting() {
    promise = 17;
    due("digest() of a new one", new SortedPages().digest(), 2125470210860219376L);
    dueDigest(() -> pairs(24));
    dueDigest(() -> {
      SortedPages x = pairs(24);
      x.take(3, 2);
      x.put(0, 2, 255);
      return x;
    });
    dueDigest(() -> {
      SortedPages x = pairs(24);
      type(x, "abc");
      x.keep(0);
      return x;
    });
  }

  private static void keepingAndBack() {
    promise = 18;
    SortedPages x = pairs(16);
    int[] bad = {-1, 2, LOWEST, HIGHEST};
    for (int image : bad) due("keep(" + image + ")", x.keep(image), BAD);
    due("keep(0)", x.keep(0), 16);
    long first = x.digest();
    promise = 19;
    for (int image : bad) due("back(" + image + ")", x.back(image), BAD);
    due("back(1)", x.back(1), STATE);
    x.load(0, 1, 5);
    due("keep(1)", x.keep(1), 5);
    long second = x.digest();
    x.put(25, 1, 3);
    due("back(0)", x.back(0), 16);
    due("digest()", x.digest(), first);
    dueCounts(x, 16, 2, 2, 29, 77, 2, 0, 2);
    due("find(15, 2)", x.find(15, 2), 15);
    due("back(1)", x.back(1), 5);
    due("digest()", x.digest(), second);
    dueCounts(x, 5, 1, 0, 31);
    due("back(0)", x.back(0), 16);
    x.put(0, 1, 1);
    due("digest() is not that of the image", x.digest() == first ? 1 : 0, 0);
    due("back(0)", x.back(0), 16);
    due("digest()", x.digest(), first);
    type(x, "put b 1;");
    due("back(1)", x.back(1), 5);
    dueTimes(x, 8, 1, 0, 0);
    due("run()", x.run(), 1);
    due("keep(1)", x.keep(1), 6);
    due("back(0)", x.back(0), 16);
    due("back(1)", x.back(1), 6);
    due("check(0, 0, 1)", x.check(0, 0, 1), 0);
  }

  private static void counters() {
    promise = 20;
    SortedPages x = pairs(17);
    int[] bad = {-1, 4, LOWEST, HIGHEST};
    for (int what : bad) due("times(" + what + ")", x.times(what), BAD);
    dueTimes(x, 0, 1, 0, 0);
    type(x, "put");
    dueTimes(x, 3, 1, 0, 0);
    x.keep(0);
    x.take(0, 2);
    dueTimes(x, 3, 1, 0, 1);
    x.take(1, 2);
    dueTimes(x, 3, 1, 1, 1);
    x.back(0);
    dueTimes(x, 3, 1, 1, 1);
    x.load(0, 1, 13);
    dueTimes(x, 3, 1, 1, 1);
    x.clear();
    dueTimes(x, 0, 1, 1, 1);
    due("run()", say(x, "put zzz 1;load 0 1 60;put aaaaa 1;"), 3);
    dueTimes(x, 0, 2, 1, 1);
  }

  public static void main(String[] args) {
    newObject();
    typing();
    clearing();
    running();
    putting();
    taking();
    loading();
    finding();
    ranking();
    goingDown();
    lettersAndValues();
    lookingAtPages();
    checking();
    counting();
    digesting();
    keepingAndBack();
    counters();
    System.out.println(wrong == 0 ? "all answers are as due" : wrong + " answers are not as due");
    if (wrong != 0) System.exit(1);
  }
}
