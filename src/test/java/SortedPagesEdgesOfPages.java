/** The edges of the terms: KEYS, what is SPELLED, PAGES and BYTES, DOWN, SHARED, the SEPARATOR of two LEAVES. */
public final class SortedPagesEdgesOfPages {
  private static final int NONE = Pages.NONE, BAD = Pages.BAD;

  private static void due(long got, long want) {
    Pages.due(got, want);
  }

  // ---- keys

  private static void keysHaveOneToEightLetters() {
    Pages.sentence("KEYS are rows of 1 to 8 letters");
    Pages x = new Pages();
    due(x.say("put a 1;put abcdefgh 8;"), 2);
    x.dueLeaf(0, 0, "a=1 abcdefgh=8");
    x.refused(-10 - 4, () -> x.say("put abcdefghi 9;"));
    x.refused(-10 - 4, () -> x.say("put ;"));
    x.refused(-10 - 5, () -> x.say("take abcdefghi;"));
    due(x.say("take abcdefgh;take a;"), 2);
    due(x.count(0), 0);
  }

  private static void keysHaveLettersFromAToZ() {
    Pages.sentence("letters a .. z");
    Pages x = new Pages();
    due(x.say("put a 1;put z 2;put az 3;"), 3);
    x.dueLeaf(0, 0, "a=1 az=3 z=2");
    x.refused(-10 - 4, () -> x.say("put ` 1;"));
    x.refused(-10 - 4, () -> x.say("put { 1;"));
    x.refused(-10 - 5, () -> x.say("put a` 1;"));
    x.refused(-10 - 5, () -> x.say("put z{ 1;"));
    x.refused(-10 - 4, () -> x.say("put A 1;"));
    x.refused(-10 - 5, () -> x.say("put zZ 1;"));
  }

  private static void theHeadOfAnotherIsLess() {
    Pages.sentence("compared letter by letter (one that is the head of another is less)");
    Pages x = new Pages();
    x.puts(7, "b", "ab", "aaa", "a", "ba", "aa", "az", "aaz");
    due(x.say("put aaaaaaab 7;put aaaaaaaa 7;put aaaaaaa 7;"), 3);
    x.dueLeaf(0, 0, "a=7 aa=7 aaa=7 aaaaaaa=7 aaaaaaaa=7 aaaaaaab=7 aaz=7 ab=7 az=7 b=7 ba=7");
    due(x.rank("aa", 0), 1);
    due(x.rank("aaa", 0), 2);
    due(x.rank("aaaaa", 0), 3);
    due(x.rank("ab", 0), 7);
  }

  // ---- spelled

  /** Put, take, find, rank and path, each with what is not spelled: all are refused. */
  private static void notSpelled(Pages x, int v, int n) {
    String before = x.state();
    due(x.put(v, n, 0), BAD);
    due(x.take(v, n), BAD);
    due(x.find(v, n), BAD);
    due(x.rank(v, n, 0), BAD);
    due(x.rank(v, n, 1), BAD);
    due(x.path(v, n, 0), BAD);
    x.dueState(before);
  }

  private static void isSpelled(Pages x, int v, int n) {
    due(x.put(v, n, 9), NONE);
    due(x.find(v, n), 9);
    due(x.rank(v, n, 1), 1);
    due(x.rank(v, n, 0), 0);
    due(x.path(v, n, 0), 0);
    due(x.take(v, n), 9);
  }

  private static void spelledByOneToFiveLetters() {
    Pages.sentence("SPELLED by v, n: n (1 .. 5) letters");
    Pages x = new Pages();
    for (int n : new int[] {Pages.LOWEST, -5, -1, 0, 6, 7, 8, 9, 32, Pages.HIGHEST}) notSpelled(x, 0, n);
    for (int n = 1; n <= 5; n++) isSpelled(x, 0, n);
    for (int n = 1; n <= 5; n++) {
      Pages y = new Pages();
      due(y.put(0, n, 1), NONE);
      due(y.letter(0, n - 1), 'a');
      due(y.letter(0, n), NONE);
    }
  }

  private static void spelledByLessThan26ToThePower() {
    Pages.sentence("v is 0 .., less than 26 to the power of n");
    int[] powers = {26, 676, 17576, 456976, 11881376};
    for (int n = 1; n <= 5; n++) {
      int power = powers[n - 1];
      Pages x = new Pages();
      isSpelled(x, 0, n);
      isSpelled(x, power - 1, n);
      for (int v : new int[] {-1, power, power + 1, -power, Pages.LOWEST, Pages.HIGHEST}) notSpelled(x, v, n);
      due(x.put(power - 1, n, 1), NONE);
      for (int j = 0; j < n; j++) due(x.letter(0, j), 'z');
      due(x.letter(0, n), NONE);
    }
  }

  private static void spelledWithTheHighestFirst() {
    Pages.sentence("the figures of v to the base 26, the highest first (a is 0)");
    Pages x = new Pages();
    due(x.put(1, 2, 1), NONE);
    due(x.put(26, 2, 2), NONE);
    due(x.put(25, 3, 3), NONE);
    due(x.put(1 + 26 * (2 + 26 * (3 + 26 * (4 + 26 * 5))), 5, 4), NONE);
    x.dueLeaf(0, 0, "aaz=3 ab=1 ba=2 fedcb=4");
  }

  // ---- pages and bytes

  private static void pages0To31Have64Bytes() {
    Pages.sentence("PAGES 0 .. 31 have 64 BYTES each (0 .. 255)");
    Pages x = new Pages();
    due(x.byteAt(0, 0), 1);
    due(x.byteAt(31, 63), 0);
    due(x.byteAt(32, 0), BAD);
    due(x.byteAt(-1, 0), BAD);
    due(x.byteAt(0, 64), BAD);
    due(x.byteAt(0, -1), BAD);
    x.puts(255, "a");
    due(x.byteAt(0, 5), 255);
  }

  /** A page that holds entries once and is free then: the join has to wipe it, and so has the root that goes. */
  private static void freePagesHaveOnlyZeros() {
    Pages.sentence("0 FREE (all its BYTES are 0)");
    Pages x = Pages.pairs(16);
    due(x.take("aa"), 7);
    x.dueFree(1);
    x.dueFree(2);
    x.dueFree(31);
    Pages y = Pages.pairs(16);
    due(y.load(0, 1, 1), 1);
    y.dueFree(1);
    y.dueFree(2);
  }

  private static void nextIsNumberAndOne() {
    Pages.sentence("BYTE 2 of a LEAF: the number of the NEXT LEAF, and 1 (0: none)");
    Pages x = Pages.pairs(15);
    due(x.page(0, 2), 0);
    x.rise("ap", 1);
    due(x.page(0, 2), 2);
    due(x.page(1, 2), 0);
    Pages y = Pages.pairs(16);
    y.puts(7, "aaa", "aba", "aca", "ada", "aea", "afa");
    due(y.page(0, 2), 4);
    due(y.page(3, 2), 2);
    due(y.page(1, 2), 0);
  }

  private static void valuesAre0To255() {
    Pages.sentence("the VALUE of the KEY (0 .. 255)");
    Pages x = new Pages();
    x.refused(BAD, () -> x.put("a", -1));
    x.refused(BAD, () -> x.put("a", 256));
    due(x.put("a", 0), NONE);
    due(x.find("a"), 0);
    due(x.put("a", 255), 0);
    due(x.find("a"), 255);
    x.refused(BAD, () -> x.put("a", 256));
    x.refused(BAD, () -> x.put("a", -1));
    x.refused(BAD, () -> x.put("a", Pages.LOWEST));
    x.refused(BAD, () -> x.put("a", Pages.HIGHEST));
    due(x.find("a"), 255);
  }

  private static void usedIs3AndTheEntries() {
    Pages.sentence("USED are 3 and the BYTES of ENTRIES; BYTES behind are 0");
    Pages x = new Pages();
    due(x.page(0, 3), 3);
    x.puts(7, "a");
    due(x.page(0, 3), 6);
    x.rise("aa", 13);
    x.puts(255, "b", "c");
    due(x.page(0, 3), 64);
    due(x.byteAt(0, 63), 255);
    due(x.take("aa"), 7);
    x.dueLeaf(0, 0, "a=7 " + Pages.row("ab", 12) + " b=255 c=255");
    due(x.take("c"), 255);
    x.dueLeaf(0, 0, "a=7 " + Pages.row("ab", 12) + " b=255");
  }

  private static void atFirst() {
    Pages.sentence("At first PAGE 0 is the ROOT, a LEAF without ENTRIES, all others are FREE");
    Pages x = new Pages();
    x.dueCounts(0, 1, 0, 31, 3, 1, 0, 0);
    x.dueTimes(0, 0, 0, 0);
    new Pages().dueLeaf(0, 0, "");
    for (int p = 1; p < 32; p++) new Pages().dueFree(p);
  }

  private static void levelsFromRootToLeaf() {
    Pages.sentence("LEVELS: how many PAGES one comes through from the ROOT to a LEAF");
    Pages x = new Pages();
    due(x.count(1), 1);
    x.rise("aaaaa", 8);
    due(x.count(1), 1);
    x.rise("aaaai", 1);
    due(x.count(1), 2);
    x.rise("aaaaj", 39);
    due(x.count(1), 2);
    x.rise("aaabw", 1);
    due(x.count(1), 3);
    due(x.path("aaabw", 2), 10);
    due(x.path("aaabw", 3), NONE);
  }

  // ---- down

  private static void downToTheLastThatIsTheKeyOrLess() {
    Pages.sentence("DOWN: from an INNER to the child of the last SEPARATOR that is the KEY or less");
    Pages x = Pages.pairs(24);
    x.dueInner(2, 0, "ai=1 aq=3");
    due(x.path("ai", 1), 1);
    due(x.path("aia", 1), 1);
    due(x.path("apzzz", 1), 1);
    due(x.path("aq", 1), 3);
    due(x.path("aqa", 1), 3);
    due(x.path("zzzzz", 1), 3);
    due(x.find("ai"), 7);
    due(x.find("aq"), 7);
  }

  private static void downToFirstIfThereIsNone() {
    Pages.sentence("DOWN: to FIRST, if there is none");
    Pages x = Pages.pairs(24);
    due(x.path("a", 1), 0);
    due(x.path("ahzzz", 1), 0);
    due(x.path("aa", 1), 0);
    Pages y = Pages.leaves("aaaaa", "aaaaf", "aaaak", "aaaap", "aaaau", "aaaaz", "aaabe", "aaabj", "aaabo", "aaabt");
    y.dueInner(12, 2, "aaabe=11");
    due(y.path("aaab", 1), 2);
    due(y.path("a", 2), 0);
    due(y.path("aaabd", 1), 2);
    due(y.path("aaabe", 1), 11);
    due(y.path("aaabe", 2), 7);
  }

  // ---- shared

  /** Sixteen keys: eight of them have 32 of 64, then 31 of 62, bytes. */
  private static void halfIsEnough() {
    Pages.sentence("SHARED: the left one has from the first on the fewest whose BYTES are half of all, or more: half");
    Pages x = Pages.pairs(16);
    x.dueLeaf(0, 2, Pages.row("aa", 8));
    x.dueLeaf(1, 0, Pages.row("ai", 8));
    x.dueInner(2, 0, "ai=1");
    Pages y = Pages.pairs(14);
    y.puts(7, "a", "b");
    y.dueLeaf(0, 2, "a=7 " + Pages.row("aa", 7));
    y.dueLeaf(1, 0, Pages.row("ah", 7) + " b=7");
    y.dueInner(2, 0, "ah=1");
  }

  /** Eight keys have 31 of 63 bytes, then 30 of 62: a ninth comes to them; but not if they have 32 of 63. */
  private static void lessThanHalfIsNotEnough() {
    Pages.sentence("SHARED: the left one has from the first on the fewest whose BYTES are half of all, or more: less");
    Pages x = Pages.pairs(14);
    x.puts(7, "a", "ao");
    x.dueLeaf(0, 2, "a=7 " + Pages.row("aa", 8));
    x.dueLeaf(1, 0, Pages.row("ai", 7));
    Pages y = new Pages().rise("ba", 14);
    y.puts(7, "a", "b");
    y.dueLeaf(0, 2, "a=7 b=7 " + Pages.row("ba", 7));
    y.dueLeaf(1, 0, Pages.row("bh", 7));
    Pages z = Pages.pairs(15);
    z.puts(7, "b");
    z.dueLeaf(0, 2, Pages.row("aa", 8));
    z.dueLeaf(1, 0, Pages.row("ai", 7) + " b=7");
  }

  /** Separators of 7 7 7 6 5, 7, 4 7 7 7 bytes: five of them have 32 of 64. */
  private static void halfIsEnoughOfInnerOnes() {
    Pages.sentence("SHARED: of INNER ones the next ENTRY goes up, its child is FIRST of the right one, that has the others: half");
    Pages x = Pages.leaves("aaaaa", "aaaaf", "aaaak", "aaaap", "aaaba", "aabaa", "aabaf", "abaaa", "abaaf", "abaak", "abaap");
    x.dueInner(2, 0, "aaaaf=1 aaaak=3 aaaap=4 aaab=5 aab=6");
    x.dueInner(12, 7, "ab=8 abaaf=9 abaak=10 abaap=11");
    x.dueInner(13, 2, "aabaf=12");
    due(x.count(2), 13);
  }

  /** Separators of 7 7 7 5 5, 5, 7 7 7 7 bytes: five of them have 31 of 64, so the sixth stays on the left. */
  private static void lessThanHalfIsNotEnoughOfInnerOnes() {
    Pages.sentence("SHARED: of INNER ones the next ENTRY goes up, its child is FIRST of the right one, that has the others: less");
    Pages x = Pages.leaves("aaaaa", "aaaaf", "aaaak", "aaaap", "aabaa", "aacaa", "aadaa", "aadaf", "aadak", "aadap", "aadau");
    x.dueInner(2, 0, "aaaaf=1 aaaak=3 aaaap=4 aab=5 aac=6 aad=7");
    x.dueInner(12, 8, "aadak=9 aadap=10 aadau=11");
    x.dueInner(13, 2, "aadaf=12");
  }

  // ---- the separator of two leaves

  private static void theShortestHeadIsOneLetter() {
    Pages.sentence("The SEPARATOR of two LEAVES: the shortest head of the right one's first KEY: one letter");
    Pages x = new Pages().rise("ay", 8).rise("ca", 8);
    x.dueLeaf(0, 2, Pages.row("ay", 8));
    x.dueLeaf(1, 0, Pages.row("ca", 8));
    x.dueInner(2, 0, "c=1");
  }

  private static void theWholeKeyIfTheLastIsItsHead() {
    Pages.sentence("The SEPARATOR of two LEAVES: .. that is greater than the left one's last KEY: which is a head of it");
    Pages x = new Pages().rise("aaa", 7);
    x.puts(7, "aagb");
    x.rise("aah", 5);
    x.dueLeaf(0, 2, Pages.row("aaa", 7));
    x.dueLeaf(1, 0, "aagb=7 " + Pages.row("aah", 5));
    x.dueInner(2, 0, "aagb=1");
  }

  /** The left one's last key is longer, and its head is that of the right one's first: ag, agzz and ah. */
  private static void theLastKeyMayBeLonger() {
    Pages.sentence("The SEPARATOR of two LEAVES: .. that is greater than the left one's last KEY: which is longer");
    Pages x = Pages.pairs(7);
    x.puts(7, "agzz");
    x.rise("ah", 7);
    x.dueLeaf(0, 2, Pages.row("aa", 7) + " agzz=7");
    x.dueLeaf(1, 0, Pages.row("ah", 7));
    x.dueInner(2, 0, "ah=1");
  }

  private static void theSeparatorMayHaveEightLetters() {
    Pages.sentence("The SEPARATOR of two LEAVES: eight letters, if they differ in the last");
    Pages x = new Pages();
    for (char c = 'a'; c <= 'f'; c++) due(x.say("put zzzzzzz" + c + "7;"), 1);
    due(x.page(0, 3), 63);
    due(x.say("put zzzzzzzg7;"), 1);
    x.dueLeaf(0, 2, "zzzzzzza=7 zzzzzzzb=7 zzzzzzzc=7 zzzzzzzd=7");
    x.dueLeaf(1, 0, "zzzzzzze=7 zzzzzzzf=7 zzzzzzzg=7");
    x.dueInner(2, 0, "zzzzzzze=1");
  }

  public static void main(String[] args) {
    keysHaveOneToEightLetters();
    keysHaveLettersFromAToZ();
    theHeadOfAnotherIsLess();
    spelledByOneToFiveLetters();
    spelledByLessThan26ToThePower();
    spelledWithTheHighestFirst();
    pages0To31Have64Bytes();
    freePagesHaveOnlyZeros();
    nextIsNumberAndOne();
    valuesAre0To255();
    usedIs3AndTheEntries();
    atFirst();
    levelsFromRootToLeaf();
    downToTheLastThatIsTheKeyOrLess();
    downToFirstIfThereIsNone();
    halfIsEnough();
    lessThanHalfIsNotEnough();
    halfIsEnoughOfInnerOnes();
    lessThanHalfIsNotEnoughOfInnerOnes();
    theShortestHeadIsOneLetter();
    theWholeKeyIfTheLastIsItsHead();
    theLastKeyMayBeLonger();
    theSeparatorMayHaveEightLetters();
    Pages.end();
  }
}
