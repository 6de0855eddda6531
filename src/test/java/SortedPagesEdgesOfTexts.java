/** The edges of COMMANDS, that come by a text, and of each FAULT. */
public final class SortedPagesEdgesOfTexts {
  private static final int BAD = Pages.BAD, FULL = Pages.FULL, NONE = Pages.NONE;

  private static void due(long got, long want) {
    Pages.due(got, want);
  }

  /** Done in a new object, so many commands of it. */
  private static void done(String text, int commands) {
    due(new Pages().say(text), commands);
  }

  /** A fault at a place: the pages, the counters and the text stay as they were. */
  private static void fault(String text, int place) {
    Pages x = Pages.pairs(3);
    x.typeAll(text);
    x.refused(-10 - place, () -> x.run());
    x.refused(-10 - place, () -> x.run());
    due(x.clear(), text.length());
  }

  private static String times(String part, int n) {
    StringBuilder text = new StringBuilder();
    for (int i = 0; i < n; i++) text.append(part);
    return text.toString();
  }

  // ---- the text

  private static void aTextOf120Bytes() {
    Pages.sentence("COMMANDS come by a text (120 bytes at most)");
    Pages x = new Pages();
    x.typeAll(times("put a 1;", 14) + "put a 1");
    due(x.times(0), 119);
    due(x.type(';'), 120);
    x.refused(FULL, () -> x.type(';'));
    x.refused(FULL, () -> x.type(' '));
    x.refused(FULL, () -> x.type(0));
    x.refused(BAD, () -> x.type(256));
    x.refused(BAD, () -> x.type(-1));
    due(x.run(), 15);
    due(x.times(0), 0);
    due(x.type('p'), 1);
  }

  private static void anEmptyText() {
    Pages.sentence("COMMANDS come by a text: an empty one");
    Pages x = Pages.pairs(3);
    x.refused(0, () -> x.run());
    x.refused(0, () -> x.clear());
    x.typeAll("   ");
    due(x.run(), 0);
    due(x.times(0), 0);
  }

  private static void blanksBetweenTokens() {
    Pages.sentence("blanks (32) between TOKENS");
    done("   put   a   1   ;   take   a   ;   ", 2);
    done("put a 1;take a;load 0 1 1;", 3);
    done("put a 1 ;take a ;load 0 1 1 ;", 3);
    fault("put\ta 1;", 3);
    fault("put a\n1;", 5);
    fault("put a 1\r;", 7);
    fault("put a 1;" + (char) 0, 8);
    fault("put a 1;" + (char) 31, 8);
    fault("put a 1;!", 8);
    fault((char) 160 + "put a 1;", 0);
    fault("pu t a 1;", 0);
    fault("put a 1 2;", 8);
    fault("put a b 1;", 6);
  }

  private static void lettersSideBySide() {
    Pages.sentence("TOKENS are letters a .. z side by side, NUMBERS and ;");
    done("put a1;", 1);
    done("put a255;take a;", 2);
    fault("puta 1;", 0);
    fault("takea;", 0);
    fault("put1 1;", 3);
    fault("put a1b;", 6);
    fault("load1 1 1 1;", 10);
    done("load1 1 1;", 1);
  }

  private static void eachEndedByASemicolon() {
    Pages.sentence("each ended by ;");
    fault("put a 1", 7);
    fault("put a 1 take a;", 8);
    fault("take a take a;", 7);
    fault("load 0 1 1 load 0 1 1;", 11);
    fault("put a 1;;", 8);
    fault(";put a 1;", 0);
    fault("put a 1:", 7);
    fault("put a 1<", 7);
  }

  // ---- the first token that can't stand there

  private static void lettersThatAreNoCommand() {
    Pages.sentence("FAULT: letters that are no command");
    String[] words = {"pu", "puts", "pux", "tak", "takes", "taka", "loa", "loads", "loae", "x", "a", "find", "oad", "ut", "ake",
      "but", "pat", "make", "tike", "tale", "road", "lead", "lord", "loan"};
    for (String word : words) fault(word + " a 1;", 0);
    fault("put a 1;puts a 1;", 8);
    fault("  x;", 2);
    fault("x", 0);
    fault("1 a 1;", 0);
    fault("; a 1;", 0);
  }

  private static void commandsAsKeys() {
    Pages.sentence("put K N (K letters: those of a command too");
    Pages x = new Pages();
    due(x.say("put put 0;put take 255;put load 7;take load;"), 4);
    due(x.find("put"), 0);
    due(x.find("take"), 255);
    due(x.find("load"), NONE);
  }

  private static void aKeyOfMoreThan8() {
    Pages.sentence("FAULT: a KEY of more than 8");
    done("put abcdefgh 1;", 1);
    fault("put abcdefghi 1;", 4);
    done("put zzzzzzzz 1;take zzzzzzzz;", 2);
    fault("take abcdefghi;", 5);
    fault("put " + times("a", 100) + " 1;", 4);
    fault("put a 1;take  aaaaaaaaa;", 14);
  }

  private static void aValueBeyond255() {
    Pages.sentence("FAULT: a NUMBER beyond what it may be: N of a put 0 .. 255");
    done("put a 0;", 1);
    done("put a 255;", 1);
    fault("put a 256;", 6);
    fault("put a 999;", 6);
    fault("put a 99999;", 6);
    fault("put a -1;", 6);
    Pages x = new Pages();
    due(x.say("put a 0;put b 255;"), 2);
    x.dueLeaf(0, 0, "a=0 b=255");
  }

  private static void fOfALoad() {
    Pages.sentence("FAULT: a NUMBER beyond what it may be: F of a load 0 .. 17575");
    done("load 0 1 1;", 1);
    done("load 17575 1 1;", 1);
    fault("load 17576 1 1;", 5);
    fault("load 99999 1 1;", 5);
    fault("load 17576 100 61;", 5);
  }

  private static void sOfALoad() {
    Pages.sentence("FAULT: a NUMBER beyond what it may be: S of a load 1 .. 99");
    done("load 5 1 1;", 1);
    done("load 5 99 1;", 1);
    fault("load 5 0 1;", 7);
    fault("load 5 100 1;", 7);
    fault("load 5 0 61;", 7);
    fault("load 17575 100 2;", 11);
  }

  private static void nOfALoad() {
    Pages.sentence("FAULT: a NUMBER beyond what it may be: N of a load 1 .. 60");
    done("load 5 1 1;", 1);
    done("load 5 1 60;", 1);
    fault("load 5 1 0;", 9);
    fault("load 5 1 61;", 9);
    fault("load 5 1 99999;", 9);
  }

  private static void allGoesBeyond() {
    Pages.sentence("FAULT: of a LOAD the last one, if all goes beyond");
    done("load 17516 1 60;", 1);
    fault("load 17517 1 60;", 13);
    done("load 11734 99 60;", 1);
    fault("load 11735 99 60;", 14);
    done("load 17574 1 2;", 1);
    fault("load 17575 1 2;", 13);
    done("load 17476 99 2;", 1);
    fault("load 17477 99 2;", 14);
    fault("load 17575 1 2", 13);
    done("load 17575 99 1;", 1);
  }

  private static void otherTokens() {
    Pages.sentence("FAULT: the place of the first byte of the first TOKEN that can't stand there");
    fault("put 1 1;", 4);
    fault("put ; 1;", 4);
    fault("put a b;", 6);
    fault("put a ;", 6);
    fault("put a 1 a;", 8);
    fault("take 1;", 5);
    fault("take ;", 5);
    fault("take a 1;", 7);
    fault("load a 1 1;", 5);
    fault("load ;", 5);
    fault("load 1 a 1;", 7);
    fault("load 1 ;", 7);
    fault("load 1 1 a;", 9);
    fault("load 1 1 ;", 9);
    fault("load 1 1 1 1;", 11);
    fault("load 1 1 1 a;", 11);
  }

  private static void theFirstOfTwoFaults() {
    Pages.sentence("FAULT: .. the first TOKEN: of two faults");
    fault("x;y;", 0);
    fault("put a 256;x;", 6);
    fault("put abcdefghi 256;", 4);
    fault("load 17576 0 1;", 5);
    fault("x ?", 0);
    fault("? x", 0);
    fault("put a 1;take 1;put ? 1;", 13);
  }

  private static void aByteThatBeginsNone() {
    Pages.sentence("FAULT: of a byte that begins none, .. that TOKEN's");
    int[] bytes = {0, 1, 9, 10, 31, 33, '"', '-', '+', '.', ',', '/', ':', '<', '@', 'A', 'Z', '[', '`', '{', '~', 127, 128, 160, 228, 255};
    for (int c : bytes) {
      fault("" + (char) c, 0);
      fault("put a 1;" + (char) c, 8);
    }
    fault("put " + (char) 228 + " 1;", 4);
    fault("put a" + (char) 228 + " 1;", 5);
    fault("put a 1?;", 7);
    fault("put a ?1;", 6);
    fault("take ?a;", 5);
    fault("load 1 ? 1;", 7);
  }

  /** 4294967297 is 1, 8589934592 is 0, if only 32 bits of it are kept; the last is 1 in 64 bits. */
  private static void aNumberAbove99999() {
    Pages.sentence("FAULT: of .. a NUMBER above 99999 .. that TOKEN's");
    fault("put a 99999;", 6);
    fault("put a 100000;", 6);
    fault("put a 4294967297;", 6);
    fault("put a 8589934592;", 6);
    fault("load 4294967296 1 1;", 5);
    fault("load 1 4294967297 1;", 7);
    fault("load 1 1 4294967297;", 9);
    fault("put a 18446744073709551617;", 6);
    fault("put a " + times("9", 114), 6);
    fault("put 100000 1;", 4);
    fault("100000", 0);
    fault("put a 1 100000;", 8);
  }

  private static void aZeroAhead() {
    Pages.sentence("FAULT: of a NUMBER .. with a 0 ahead of others, that TOKEN's");
    done("put a 0;", 1);
    fault("put a 00;", 6);
    fault("put a 01;", 6);
    fault("put a 007;", 6);
    done("put a 10;put a 100;", 2);
    fault("load 00 1 1;", 5);
    fault("load 01 1 1;", 5);
    fault("load 0 01 1;", 7);
    fault("load 0 1 01;", 9);
    fault("load 0 1 00;", 9);
    done("load 0 10 10;", 1);
    fault("put a " + times("0", 50) + "1;", 6);
  }

  private static void itEndsTooEarly() {
    Pages.sentence("FAULT: the text's length, if it ends too early");
    String[] texts = {"put", "put ", "put a", "put a ", "put a 1", "put a 1  ", "take", "take   ", "take a", "take a ", "load", "load ", "load 1",
      "load 1 ", "load 1 1", "load 1 1 ", "load 1 1 1", "load 1 1 1 ", "put a 1; take", "  put"};
    for (String text : texts) fault(text, text.length());
    fault(times("put a 1;", 14) + "put a 12", 120);
    fault(times(" ", 117) + "put", 120);
    fault(times(" ", 119) + ";", 119);
  }

  // ---- done

  private static void oneBehindTheOther() {
    Pages.sentence("They are done one behind the other");
    Pages x = new Pages();
    due(x.say("put a 1;put a 2;take a;put a 3;load 0 1 2;put b 4;take aaa;"), 7);
    x.dueLeaf(0, 0, "aab=1 b=4");
    Pages y = new Pages();
    due(y.say("put b 4;load 0 1 2;"), 2);
    y.dueLeaf(0, 0, "aaa=0 aab=1");
  }

  private static void whatIsNoneIsPassedOver() {
    Pages.sentence("what is refused (FULL, NONE) is passed over: NONE");
    Pages x = new Pages();
    due(x.say("take a;"), 0);
    due(x.times(0), 0);
    due(x.say("take a;put a 1;take b;take a;take a;put b 2;"), 3);
    x.dueLeaf(0, 0, "b=2");
    Pages y = new Pages();
    due(y.say("put a 1;put a 1;"), 2);
  }

  private static void whatIsFullIsPassedOver() {
    Pages.sentence("what is refused (FULL, NONE) is passed over: FULL");
    Pages x = new Pages().rise("aaaaa", 119);
    x.refused(0, () -> x.say("put z 1;"));
    due(x.say("put z 1;put aaaaa 1;put y 2;take aaaaa;put aaaaa 3;take aaaab;put z 4;put y 5;"), 5);
    due(x.find("aaaaa"), NONE);
    due(x.find("aaaab"), NONE);
    due(x.find("z"), 4);
    due(x.find("y"), 5);
  }

  private static void runLeavesAnEmptyText() {
    Pages.sentence("THE TEXT's COMMANDS are done, and it is empty then: how many were not passed over");
    Pages x = new Pages();
    x.typeAll("put a 1;");
    due(x.times(0), 8);
    due(x.run(), 1);
    due(x.times(0), 0);
    due(x.run(), 0);
    due(x.find("a"), 1);
    x.typeAll("take b;");
    due(x.run(), 0);
    due(x.clear(), 0);
  }

  private static void afterAFaultNothingChanges() {
    Pages.sentence("-10 less FAULT: nothing changes");
    Pages x = Pages.pairs(16);
    x.typeAll("put a 1;load 0 1 60;take aa;put b");
    x.refused(-10 - 33, () -> x.run());
    x.typeAll(" 5;");
    due(x.run(), 3);
    due(x.find("aaa"), 0);
    due(x.find("b"), 5);
    due(x.count(0), 61);
  }

  public static void main(String[] args) {
    aTextOf120Bytes();
    anEmptyText();
    blanksBetweenTokens();
    lettersSideBySide();
    eachEndedByASemicolon();
    lettersThatAreNoCommand();
    commandsAsKeys();
    aKeyOfMoreThan8();
    aValueBeyond255();
    fOfALoad();
    sOfALoad();
    nOfALoad();
    allGoesBeyond();
    otherTokens();
    theFirstOfTwoFaults();
    aByteThatBeginsNone();
    aNumberAbove99999();
    aZeroAhead();
    itEndsTooEarly();
    oneBehindTheOther();
    whatIsNoneIsPassedOver();
    whatIsFullIsPassedOver();
    runLeavesAnEmptyText();
    afterAFaultNothingChanges();
    Pages.end();
  }
}
