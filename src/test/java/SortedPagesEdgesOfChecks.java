/** The edges of CHECK, why by why: the last byte that is as due, the first that is not. */
public final class SortedPagesEdgesOfChecks {
  private static final int BAD = Pages.BAD;

  private static void due(long got, long want) {
    Pages.due(got, want);
  }

  /** Pages 0 (aa .. ah) and 1 (ai .. ap) below the root 2 (ai=1); in a leaf, the key k has its letters at 4 + 4 k and 5 + 4 k. */
  private static Pages twoLevels() {
    return Pages.pairs(16);
  }

  /**
   * The root 12 (aaabg=11) above pages 2 (aaaah=1 aaaam=3 aaaar=4 aaaaw=5 aaabb=6) and 11 (FIRST 7, aaabl=8 aaabq=9 aaabv=10);
   * an entry k, key or separator, has its letters at 4 + 7 k .. 8 + 7 k.
   */
  private static Pages threeLevels() {
    Pages x = Pages.leaves("aaaac", "aaaah", "aaaam", "aaaar", "aaaaw", "aaabb", "aaabg", "aaabl", "aaabq", "aaabv");
    due(x.count(2), 12);
    due(x.count(1), 3);
    return x;
  }

  private static void checkIsBad() {
    Pages.sentence("CHECK (v 0 .. 255). BAD.");
    Pages x = twoLevels();
    int[][] bad = {{-1, 0, 0}, {32, 0, 0}, {0, -1, 0}, {0, 64, 0}, {0, 0, -1}, {0, 0, 256}, {Pages.LOWEST, 0, 0}, {Pages.HIGHEST, 0, 0},
      {0, Pages.LOWEST, 0}, {0, Pages.HIGHEST, 0}, {0, 0, Pages.LOWEST}, {0, 0, Pages.HIGHEST}};
    for (int[] b : bad) x.refused(BAD, () -> x.check(b[0], b[1], b[2]));
    due(x.check(0, 0, 1), 0);
    due(x.check(31, 0, 0), 0);
    due(x.check(0, 63, 0), 0);
    due(x.check(0, 6, 0), 0);
    due(x.check(0, 6, 255), 0);
  }

  private static void asIf() {
    Pages.sentence("CHECK of a PAGE, i, v: as if BYTE i of it were v");
    Pages x = threeLevels();
    int[][] all = {{0, 0, 0}, {2, 1, 0}, {12, 2, 99}, {7, 4, 'z'}, {10, 2, 9}, {31, 31, 31}, {12, 8, 'a'}, {6, 9, 200}};
    String before = x.state();
    for (int[] b : all) x.check(b[0], b[1], b[2]);
    x.dueState(before);
    due(x.check(0, 0, 1), 0);
  }

  private static void noneIsWrong() {
    Pages.sentence("0: none is wrong");
    due(new Pages().check(0, 0, 1), 0);
    due(new Pages().check(31, 63, 0), 0);
    Pages x = threeLevels();
    for (int p = 0; p < 32; p++) for (int i = p % 5; i < 64; i += 11) due(x.check(p, i, x.byteAt(p, i)), 0);
  }

  // ---- 1

  private static void leavesOnTheLastLevel() {
    Pages.sentence("1 its SORT is not as due (LEAVES on the last of LEVELS as they are now)");
    Pages x = twoLevels();
    due(x.check(0, 0, 1), 0);
    for (int sort : new int[] {0, 2, 3, 255}) {
      due(x.check(0, 0, sort), 100);
      due(x.check(1, 0, sort), 101);
    }
    Pages y = new Pages();
    due(y.check(0, 0, 1), 0);
    for (int sort : new int[] {0, 2, 3, 255}) due(y.check(0, 0, sort), 100);
    Pages z = threeLevels();
    due(z.check(10, 0, 2), 110);
    due(z.check(6, 0, 0), 106);
  }

  private static void innerOnesAbove() {
    Pages.sentence("1 its SORT is not as due (.. INNER ones above)");
    Pages x = twoLevels();
    due(x.check(2, 0, 2), 0);
    for (int sort : new int[] {0, 1, 3, 255}) due(x.check(2, 0, sort), 102);
    Pages y = threeLevels();
    for (int sort : new int[] {0, 1, 3, 255}) {
      due(y.check(12, 0, sort), 112);
      due(y.check(2, 0, sort), 102);
      due(y.check(11, 0, sort), 111);
    }
  }

  private static void levelsAsTheyAreNow() {
    Pages.sentence("1 .. LEVELS as they are now");
    Pages x = threeLevels();
    due(x.check(0, 0, 1), 0);
    due(x.take("aaabv"), 7);
    due(x.count(1), 2);
    due(x.count(2), 2);
    due(x.check(0, 0, 1), 0);
    due(x.check(2, 0, 2), 0);
    due(x.check(0, 0, 2), 100);
  }

  // ---- 2

  private static void noEntries() {
    Pages.sentence("2 ENTRIES can't be read (none, but in a ROOT that is a LEAF");
    due(new Pages().check(0, 1, 0), 0);
    Pages x = twoLevels();
    due(x.check(0, 1, 0), 200);
    due(x.check(1, 1, 0), 201);
    due(x.check(2, 1, 0), 202);
    due(new Pages().check(0, 1, 1), 200);
  }

  private static void howManyEntries() {
    Pages.sentence("2 ENTRIES can't be read: too many, too few of them");
    Pages x = twoLevels();
    due(x.check(0, 1, 8), 0);
    due(x.check(0, 1, 7), 200);
    due(x.check(0, 1, 9), 200);
    due(x.check(0, 1, 255), 200);
    due(x.check(2, 1, 1), 0);
    due(x.check(2, 1, 2), 202);
  }

  /** The key a with the value 0: without letters it would be an entry with the value 97, and only zeros behind. */
  private static void fewerThanOneLetter() {
    Pages.sentence("2 .. letters fewer than 1");
    Pages x = new Pages();
    x.puts(0, "a");
    due(x.check(0, 3, 1), 0);
    due(x.check(0, 3, 0), 200);
    Pages y = new Pages();
    y.puts(0, "ab");
    due(y.check(0, 3, 1), 0);
    due(y.check(0, 3, 0), 200);
  }

  /** A value that is a letter comes to the letters ahead of it: seven of them become eight, eight nine. */
  private static void moreThanEightLetters() {
    Pages.sentence("2 .. letters .. more than 8");
    Pages x = new Pages();
    due(x.say("put abcdefg 104;"), 1);
    due(x.check(0, 3, 7), 0);
    due(x.check(0, 3, 8), 0);
    Pages y = new Pages();
    due(y.say("put abcdefgh 105;"), 1);
    due(y.check(0, 3, 8), 0);
    due(y.check(0, 3, 9), 200);
    due(y.check(0, 3, 255), 200);
  }

  private static void noLettersFromAToZ() {
    Pages.sentence("2 .. letters .. none a .. z");
    Pages x = new Pages();
    due(x.say("put mmmmmmmm 7;"), 1);
    for (int i = 4; i < 12; i++) {
      due(x.check(0, i, 'a'), 0);
      due(x.check(0, i, 'z'), 0);
      due(x.check(0, i, 'a' - 1), 200);
      due(x.check(0, i, 'z' + 1), 200);
      due(x.check(0, i, 0), 200);
      due(x.check(0, i, 255), 200);
    }
    due(x.check(0, 12, 0), 0);
    due(x.check(0, 12, 255), 0);
    Pages y = twoLevels();
    due(y.check(2, 5, '`'), 202);
    due(y.check(2, 5, '{'), 202);
  }

  /** Fifteen keys of two letters have 63 bytes: the last one, with its value, may be one of three letters. */
  private static void upToThe64Bytes() {
    Pages.sentence("2 .. beyond the 64 BYTES");
    Pages x = Pages.pairs(14);
    x.puts('x', "ao");
    due(x.page(0, 3), 63);
    due(x.check(0, 59, 2), 0);
    due(x.check(0, 59, 3), 0);
    Pages y = Pages.pairs(14);
    y.puts('x', "aox");
    due(y.page(0, 3), 64);
    due(y.check(0, 59, 3), 0);
    due(y.check(0, 59, 4), 200);
    due(y.check(0, 59, 8), 200);
    due(y.check(0, 1, 15), 0);
    due(y.check(0, 1, 16), 200);
    due(y.check(0, 1, 255), 200);
    due(y.check(0, 63, 0), 0);
    due(y.check(0, 63, 255), 0);
  }

  private static void aByteBehind() {
    Pages.sentence("2 .. or a BYTE behind them is not 0");
    Pages x = twoLevels();
    due(x.check(0, 34, 1), 0);
    due(x.check(0, 35, 0), 0);
    for (int i : new int[] {35, 36, 50, 62, 63}) {
      due(x.check(0, i, 1), 200);
      due(x.check(1, i, 255), 201);
      due(x.check(2, i, 1), 202);
    }
    due(x.check(2, 7, 1), 202);
    due(new Pages().check(0, 3, 1), 200);
    due(new Pages().check(0, 63, 1), 200);
    Pages y = Pages.pairs(15);
    due(y.check(0, 62, 255), 0);
    due(y.check(0, 63, 1), 200);
    Pages z = new Pages();
    z.puts(5, "ab");
    due(z.check(0, 3, 1), 200);
  }

  // ---- 3

  private static void keysDoNotRise() {
    Pages.sentence("3 KEYS .. do not rise");
    Pages x = Pages.pairs(3);
    due(x.check(0, 9, 'b'), 0);
    due(x.check(0, 9, 'a'), 300);
    due(x.check(0, 9, 'c'), 300);
    due(x.check(0, 9, 'd'), 300);
    due(x.check(0, 5, 'b'), 300);
    due(x.check(0, 4, 'b'), 300);
    due(x.check(0, 13, 'b'), 300);
    due(x.check(0, 13, 'z'), 0);
    due(x.check(0, 12, 'z'), 0);
    Pages y = new Pages();
    y.puts('b', "a", "ac");
    due(y.check(0, 3, 1), 0);
    y.puts(0, "aca", "ad");
    due(y.check(0, 13, 'b'), 0);
    due(y.check(0, 12, 'b'), 300);
  }

  /** In eight letters only the last differs. */
  private static void eightLettersDoNotRise() {
    Pages.sentence("3 KEYS .. do not rise: in the last of eight letters");
    Pages x = new Pages();
    due(x.say("put aaaaaaab 1;put aaaaaaac 1;"), 2);
    due(x.check(0, 21, 'c'), 0);
    due(x.check(0, 21, 'b'), 300);
    due(x.check(0, 21, 'a'), 300);
    due(x.check(0, 11, 'c'), 300);
    due(x.check(0, 11, 'a'), 0);
  }

  /** The key ac with the value 0 becomes a with the value 99, which is a head of the one ahead; ab and abc stay as they are. */
  private static void headsDoNotRise() {
    Pages.sentence("3 KEYS .. do not rise: one that is the head of another");
    Pages x = new Pages();
    x.puts(0, "ab", "ac");
    due(x.check(0, 7, 1), 300);
    Pages y = new Pages();
    y.puts(0, "ab", "abc");
    due(y.check(0, 7, 3), 0);
    due(y.check(0, 10, 'a'), 0);
    due(y.check(0, 9, 'a'), 300);
    Pages z = new Pages();
    z.puts(0, "ab", "abc");
    due(z.check(0, 7, 2), 300);
  }

  private static void separatorsDoNotRise() {
    Pages.sentence("3 .. SEPARATORS do not rise");
    Pages x = Pages.pairs(24);
    x.dueInner(2, 0, "ai=1 aq=3");
    due(x.check(2, 9, 'q'), 0);
    due(x.check(2, 9, 'i'), 302);
    due(x.check(2, 9, 'h'), 302);
    due(x.check(2, 9, 'j'), 401);
    due(x.check(2, 5, 'q'), 302);
    due(x.check(2, 5, 'r'), 302);
    due(x.check(2, 5, 'p'), 401);
    due(x.check(2, 4, 'b'), 302);
  }

  // ---- 4

  private static void belowTheSeparatorAhead() {
    Pages.sentence("4 one is below the SEPARATOR ahead of the PAGE");
    Pages x = twoLevels();
    due(x.check(1, 5, 'i'), 0);
    due(x.check(1, 5, 'h'), 401);
    due(x.check(1, 5, 'a'), 401);
    due(x.check(2, 5, 'i'), 0);
    due(x.check(2, 5, 'j'), 401);
    due(x.check(2, 4, 'b'), 401);
  }

  private static void notBelowTheSeparatorBehind() {
    Pages.sentence("4 one is .. not below the one behind it");
    Pages x = twoLevels();
    due(x.check(0, 33, 'h'), 0);
    due(x.check(0, 33, 'i'), 400);
    due(x.check(0, 33, 'j'), 400);
    due(x.check(0, 32, 'b'), 400);
    due(x.check(2, 5, 'h'), 400);
    due(x.check(2, 5, 'a'), 400);
    due(x.check(1, 33, 'z'), 0);
    Pages y = Pages.pairs(24);
    due(y.check(1, 33, 'p'), 0);
    due(y.check(1, 33, 'q'), 401);
    due(y.check(1, 5, 'h'), 401);
    due(y.check(3, 5, 'p'), 403);
    due(y.check(3, 33, 'z'), 0);
  }

  private static void aPageOfOneEntry() {
    Pages.sentence("4 one is .. not below the one behind it: the only one of a PAGE");
    Pages x = Pages.leafOfOneEntry();
    due(x.page(0, 1), 1);
    due(x.check(0, 6, 'a'), 0);
    due(x.check(0, 6, 'b'), 400);
    due(x.check(0, 6, 'c'), 400);
    due(x.check(0, 4, 'z'), 400);
    due(x.check(0, 8, 'z'), 0);
    due(x.check(0, 1, 0), 200);
    due(x.check(0, 1, 2), 200);
  }

  private static void thoseOfAllInnerOnesAbove() {
    Pages.sentence("4 .. (those of all INNER ones above count): KEYS");
    Pages x = threeLevels();
    due(x.check(6, 36, 'f'), 0);
    due(x.check(6, 36, 'g'), 406);
    due(x.check(7, 8, 'g'), 0);
    due(x.check(7, 8, 'f'), 407);
    due(x.check(12, 8, 'g'), 0);
    due(x.check(12, 8, 'h'), 407);
    due(x.check(12, 8, 'f'), 406);
  }

  private static void separatorsBetweenThoseAbove() {
    Pages.sentence("4 .. (those of all INNER ones above count): SEPARATORS");
    Pages x = threeLevels();
    due(x.check(2, 36, 'b'), 0);
    due(x.check(2, 36, 'f'), 406);
    due(x.check(2, 36, 'g'), 402);
    due(x.check(2, 36, 'h'), 402);
    due(x.check(11, 8, 'l'), 0);
    due(x.check(11, 8, 'g'), 407);
    due(x.check(11, 8, 'f'), 411);
    due(x.check(12, 8, 'l'), 407);
    due(x.check(12, 8, 'm'), 411);
    due(x.check(12, 8, 'c'), 406);
    due(x.check(12, 8, 'b'), 402);
    due(x.check(12, 8, 'a'), 402);
  }

  // ---- 5

  private static void aChildAbove31() {
    Pages.sentence("5 a child is above 31");
    Pages x = twoLevels();
    due(x.check(2, 2, 0), 0);
    due(x.check(2, 2, 31), 131);
    due(x.check(2, 2, 32), 502);
    due(x.check(2, 2, 255), 502);
    due(x.check(2, 6, 1), 0);
    due(x.check(2, 6, 31), 131);
    due(x.check(2, 6, 32), 502);
    due(x.check(2, 6, 255), 502);
    Pages y = threeLevels();
    due(y.check(11, 23, 10), 0);
    due(y.check(11, 23, 31), 131);
    due(y.check(11, 23, 32), 511);
    due(y.check(12, 9, 32), 512);
  }

  private static void aChildThatWasComeTo() {
    Pages.sentence("5 a child .. was come to already");
    Pages x = twoLevels();
    due(x.check(2, 2, 2), 502);
    due(x.check(2, 6, 2), 502);
    Pages y = threeLevels();
    due(y.check(11, 2, 7), 0);
    due(y.check(11, 2, 6), 511);
    due(y.check(11, 2, 0), 511);
    due(y.check(11, 2, 2), 511);
    due(y.check(11, 2, 11), 511);
    due(y.check(11, 2, 12), 511);
    due(y.check(2, 2, 12), 502);
    due(y.check(2, 2, 2), 502);
    due(y.check(12, 2, 12), 512);
    due(y.check(11, 23, 4), 511);
  }

  private static void aChildTwice() {
    Pages.sentence("5 a child .. twice in it");
    Pages x = twoLevels();
    due(x.check(2, 2, 1), 502);
    due(x.check(2, 6, 0), 502);
    Pages y = Pages.pairs(24);
    y.dueInner(2, 0, "ai=1 aq=3");
    due(y.check(2, 2, 3), 502);
    due(y.check(2, 6, 3), 502);
    due(y.check(2, 10, 1), 502);
    due(y.check(2, 10, 0), 502);
    due(y.check(2, 10, 3), 0);
    Pages z = threeLevels();
    due(z.check(11, 2, 10), 511);
    due(z.check(12, 2, 11), 512);
    due(z.check(12, 9, 2), 512);
  }

  /** Page 7 is a child of page 11, page 11 of the root: one has not come to them yet, they are wrong themselves. */
  private static void aChildThatWasNotComeTo() {
    Pages.sentence("5 a child .. was come to already: not yet");
    Pages x = threeLevels();
    due(x.check(2, 2, 7), 407);
    due(x.check(2, 2, 11), 111);
    due(x.check(12, 2, 0), 100);
    due(x.check(12, 9, 7), 107);
  }

  // ---- the order of them

  private static void eachPageAheadOfItsChildren() {
    Pages.sentence("From the ROOT down, each PAGE ahead of its children, these in their order, the first that is wrong");
    Pages x = threeLevels();
    due(x.check(12, 1, 0), 212);
    due(x.check(2, 1, 0), 202);
    due(x.check(12, 8, 'a'), 402);
    due(x.check(11, 2, 31), 131);
    due(x.check(2, 9, 31), 131);
    Pages y = Pages.pairs(16);
    y.puts(7, "aaa", "aba", "aca", "ada", "aea", "afa");
    y.dueInner(2, 0, "ada=3 ai=1");
    due(y.check(2, 6, 'z'), 403);
    due(y.check(2, 4, 'z'), 302);
    due(y.check(2, 5, 'a'), 400);
    due(y.check(2, 10, 'z'), 401);
  }

  private static void theFirstWhy() {
    Pages.sentence("100 times why: the first of several");
    Pages x = twoLevels();
    due(x.check(2, 0, 1), 102);
    due(x.check(0, 4, '`'), 200);
    due(x.check(0, 33, 'a'), 300);
    due(x.check(0, 32, 'z'), 400);
    Pages y = Pages.pairs(24);
    due(y.check(1, 5, 'z'), 301);
    due(y.check(2, 8, 'a' - 1), 202);
  }

  // ---- 6 and 7

  private static void nextIsNotTheOneBehind() {
    Pages.sentence("Then 6: the first LEAF, by their order, whose NEXT is not the one behind it");
    Pages x = twoLevels();
    due(x.check(0, 2, 2), 0);
    for (int next : new int[] {0, 1, 3, 4, 33, 255}) due(x.check(0, 2, next), 600);
    due(x.check(1, 2, 0), 0);
    for (int next : new int[] {1, 2, 3, 33, 255}) due(x.check(1, 2, next), 601);
    Pages y = new Pages();
    due(y.check(0, 2, 0), 0);
    due(y.check(0, 2, 1), 600);
    due(y.check(0, 2, 255), 600);
  }

  private static void byTheirOrder() {
    Pages.sentence("6: .. by their order: not that of their numbers, and from one INNER to the next");
    Pages x = Pages.pairs(16);
    x.puts(7, "aaa", "aba", "aca", "ada", "aea", "afa");
    due(x.check(0, 2, 4), 0);
    due(x.check(0, 2, 2), 600);
    due(x.check(3, 2, 2), 0);
    due(x.check(3, 2, 0), 603);
    due(x.check(1, 2, 0), 0);
    due(x.check(1, 2, 4), 601);
    Pages y = threeLevels();
    due(y.check(6, 2, 8), 0);
    due(y.check(6, 2, 0), 606);
    due(y.check(6, 2, 12), 606);
    due(y.check(10, 2, 0), 0);
    due(y.check(10, 2, 1), 610);
  }

  private static void aPageThatWasNotComeTo() {
    Pages.sentence("then 7: the lowest PAGE that was not come to, and is not FREE");
    Pages x = twoLevels();
    for (int p = 3; p < 32; p++) {
      due(x.check(p, 0, 0), 0);
      due(x.check(p, 0, 1), 700 + p);
      due(x.check(p, 1, 1), 700 + p);
      due(x.check(p, 63, 255), 700 + p);
    }
    due(x.check(3, 0, 2), 703);
    due(x.check(3, 2, 1), 703);
    due(new Pages().check(1, 0, 1), 701);
    due(new Pages().check(31, 63, 1), 731);
  }

  public static void main(String[] args) {
    checkIsBad();
    asIf();
    noneIsWrong();
    leavesOnTheLastLevel();
    innerOnesAbove();
    levelsAsTheyAreNow();
    noEntries();
    howManyEntries();
    fewerThanOneLetter();
    moreThanEightLetters();
    noLettersFromAToZ();
    upToThe64Bytes();
    aByteBehind();
    keysDoNotRise();
    eightLettersDoNotRise();
    headsDoNotRise();
    separatorsDoNotRise();
    belowTheSeparatorAhead();
    notBelowTheSeparatorBehind();
    aPageOfOneEntry();
    thoseOfAllInnerOnesAbove();
    separatorsBetweenThoseAbove();
    aChildAbove31();
    aChildThatWasComeTo();
    aChildTwice();
    aChildThatWasNotComeTo();
    eachPageAheadOfItsChildren();
    theFirstWhy();
    nextIsNotTheOneBehind();
    byTheirOrder();
    aPageThatWasNotComeTo();
    Pages.end();
  }
}
