import java.util.ArrayList;
import java.util.List;

/** The edges of what is done: PUT, TAKE and LOAD. */
public final class SortedPagesEdgesOfChanges {
  private static final int NONE = Pages.NONE, BAD = Pages.BAD, FULL = Pages.FULL;
  /** Separators of five letters alone; the ninth splits the root: pages 2 and 11 are then below the root 12. */
  private static final int STEPS = 10;

  private static void due(long got, long want) {
    Pages.due(got, want);
  }

  /** Leaves that begin with aaaaa, aaaaf, aaaak, .., so many of them, and then with more. */
  private static Pages steps(int n, String... more) {
    List<String> firsts = new ArrayList<>();
    for (int i = 0; i < n; i++) firsts.add(Pages.spell(5 * i, 5));
    firsts.addAll(List.of(more));
    return Pages.leaves(firsts.toArray(new String[0]));
  }

  // ---- put

  private static void putOfAKeyThatIsThere() {
    Pages.sentence("PUT a KEY: If it is there, its VALUE is another one");
    Pages x = Pages.pairs(13);
    x.puts(7, "a", "b", "c");
    due(x.page(0, 3), 64);
    due(x.put("a", 0), 7);
    due(x.put("c", 255), 7);
    due(x.put("ag", 8), 7);
    due(x.put("ag", 9), 8);
    x.dueLeaf(0, 0, "a=0 " + Pages.row("aa", 6) + " ag=9 " + Pages.row("ah", 6) + " b=7 c=255");
    x.dueTimes(0, 0, 0, 0);
  }

  private static void putComesInItsPlace() {
    Pages.sentence("PUT a KEY: Else it comes in its place among ENTRIES");
    Pages x = new Pages();
    x.puts(1, "m");
    x.puts(2, "z");
    x.puts(3, "a");
    x.puts(4, "n");
    x.puts(5, "ma");
    x.dueLeaf(0, 0, "a=3 m=1 ma=5 n=4 z=2");
    Pages y = Pages.pairs(16);
    y.puts(1, "ahz");
    y.puts(2, "aia");
    y.puts(3, "a");
    y.dueLeaf(0, 2, "a=3 " + Pages.row("aa", 8) + " ahz=1");
    y.dueLeaf(1, 0, "ai=7 aia=2 " + Pages.row("aj", 7));
  }

  private static void aRootOf64IsNotSplit() {
    Pages.sentence("If USED were above 64, the PAGE is SPLIT: a LEAF that is the ROOT");
    Pages x = Pages.pairs(13);
    x.puts(7, "a", "b", "c");
    due(x.page(0, 3), 64);
    x.dueCounts(16, 1, 0, 31, 64, 1, 0, 0);
    x.dueTimes(0, 0, 0, 0);
    Pages y = Pages.pairs(14);
    y.puts(7, "a");
    due(y.page(0, 3), 62);
    y.puts(7, "b");
    y.dueCounts(16, 2, 2, 29, 3 + 31 + 3 + 31 + 3 + 4, 2, 0, 2);
    y.dueTimes(0, 1, 0, 0);
  }

  private static void aLeafOf64IsNotSplit() {
    Pages.sentence("If USED were above 64, the PAGE is SPLIT: a LEAF that is not the ROOT");
    Pages x = Pages.pairs(22);
    x.puts(7, "awa");
    due(x.page(1, 3), 64);
    x.dueCounts(23, 2, 2, 29);
    x.dueTimes(0, 1, 0, 0);
    Pages y = Pages.pairs(22);
    y.puts(7, "awaa");
    y.dueLeaf(1, 4, Pages.row("ai", 8));
    y.dueLeaf(3, 0, Pages.row("aq", 6) + " awaa=7");
    y.dueInner(2, 0, "ai=1 aq=3");
    y.dueTimes(0, 2, 0, 0);
  }

  private static void anInnerRootOf64IsNotSplit() {
    Pages.sentence("if USED of that were above 64, it is SPLIT likewise: an INNER that is the ROOT");
    Pages x = steps(9, "aabaa");
    x.dueInner(2, 0, "aaaaf=1 aaaak=3 aaaap=4 aaaau=5 aaaaz=6 aaabe=7 aaabj=8 aaabo=9 aab=10");
    due(x.page(2, 3), 64);
    x.dueCounts(49, 2, 2, 21);
    x.dueTimes(0, 9, 0, 0);
    Pages y = steps(9, "aaaca");
    y.dueInner(2, 0, "aaaaf=1 aaaak=3 aaaap=4 aaaau=5 aaaaz=6");
    y.dueInner(11, 7, "aaabj=8 aaabo=9 aaac=10");
    y.dueInner(12, 2, "aaabe=11");
    y.dueCounts(49, 3, 12, 19);
    y.dueTimes(0, 10, 0, 0);
  }

  private static void anInnerOf64IsNotSplit() {
    Pages.sentence("if USED of that were above 64, it is SPLIT likewise, and so on: an INNER that is not the ROOT");
    Pages x = steps(15, "aabaa");
    x.dueInner(11, 7, "aaabj=8 aaabo=9 aaabt=10 aaaby=13 aaacd=14 aaaci=15 aaacn=16 aaacs=17 aab=18");
    due(x.page(11, 3), 64);
    x.dueInner(12, 2, "aaabe=11");
    x.dueCounts(79, 3, 12, 13);
    Pages y = steps(15, "aaada");
    y.dueInner(11, 7, "aaabj=8 aaabo=9 aaabt=10 aaaby=13 aaacd=14");
    y.dueInner(19, 15, "aaacn=16 aaacs=17 aaad=18");
    y.dueInner(12, 2, "aaabe=11 aaaci=19");
    y.dueCounts(79, 3, 12, 12);
    y.dueTimes(0, 17, 0, 0);
  }

  private static void theLowestFreePage() {
    Pages.sentence("the lowest FREE PAGE becomes its right neighbour, of its SORT");
    Pages x = Pages.pairs(24);
    due(x.take("aa"), 7);
    x.dueFree(1);
    x.rise("ay", 8);
    x.dueLeaf(0, 4, Pages.row("ab", 15));
    x.dueLeaf(3, 2, Pages.row("aq", 8));
    x.dueLeaf(1, 0, Pages.row("ay", 8));
    x.dueInner(2, 0, "aq=3 ay=1");
  }

  private static void theFirstLeafIsSplit() {
    Pages.sentence("LEAVES are linked; .. right behind the child that was SPLIT: the first child");
    Pages x = Pages.pairs(16);
    x.puts(7, "aaa", "aba", "aca", "ada", "aea", "afa");
    x.dueLeaf(0, 4, "aa=7 aaa=7 ab=7 aba=7 ac=7 aca=7 ad=7");
    x.dueLeaf(3, 2, "ada=7 ae=7 aea=7 af=7 afa=7 ag=7 ah=7");
    x.dueLeaf(1, 0, Pages.row("ai", 8));
    x.dueInner(2, 0, "ada=3 ai=1");
  }

  private static void aLeafBetweenIsSplit() {
    Pages.sentence("LEAVES are linked; .. right behind the child that was SPLIT: one between others");
    Pages x = Pages.pairs(24);
    x.puts(7, "aia", "aja", "aka", "ala", "ama", "ana");
    x.dueLeaf(0, 2, Pages.row("aa", 8));
    x.dueLeaf(1, 5, "ai=7 aia=7 aj=7 aja=7 ak=7 aka=7 al=7");
    x.dueLeaf(4, 4, "ala=7 am=7 ama=7 an=7 ana=7 ao=7 ap=7");
    x.dueLeaf(3, 0, Pages.row("aq", 8));
    x.dueInner(2, 0, "ai=1 ala=4 aq=3");
  }

  private static void theLastLeafIsSplit() {
    Pages.sentence("LEAVES are linked; .. right behind the child that was SPLIT: the last child");
    Pages x = Pages.pairs(24);
    x.dueLeaf(1, 4, Pages.row("ai", 8));
    x.dueLeaf(3, 0, Pages.row("aq", 8));
    x.dueInner(2, 0, "ai=1 aq=3");
  }

  private static void theNewRoot() {
    Pages.sentence("Of the ROOT, SPLIT, and its neighbour the lowest FREE PAGE then becomes the new ROOT, an INNER with the old one FIRST");
    Pages x = Pages.pairs(15);
    x.dueCounts(15, 1, 0, 31);
    x.rise("ap", 1);
    x.dueCounts(16, 2, 2, 29);
    x.dueInner(2, 0, "ai=1");
    Pages y = steps(STEPS);
    y.dueCounts(49, 3, 12, 19);
    y.dueLeaf(10, 0, Pages.row("aaabt", 4));
    y.dueInner(11, 7, "aaabj=8 aaabo=9 aaabt=10");
    y.dueInner(12, 2, "aaabe=11");
  }

  /** The 119th of these keys takes the 29th page: 3 are free then, and there are 3 levels. */
  private static void fullIfNoMoreThanLevels() {
    Pages.sentence("FULL: it would be new, and FREE PAGES are no more than LEVELS");
    Pages x = new Pages().rise("aaaaa", 118);
    x.dueCounts(118, 3, 12, 4);
    due(x.put(118, 5, 7), NONE);
    x.dueCounts(119, 3, 12, 3);
    x.refused(FULL, () -> x.put(119, 5, 7));
    x.refused(FULL, () -> x.put("z", 7));
    x.refused(FULL, () -> x.put("a", 7));
    due(x.put(118, 5, 8), 7);
    due(x.put(0, 5, 9), 7);
    due(x.take(0, 5), 9);
    x.refused(FULL, () -> x.put(0, 5, 7));
    due(x.take(1, 5), 7);
    x.dueCounts(117, 3, 12, 4);
    due(x.put("z", 7), NONE);
    due(x.check(31, 63, 0), 0);
  }

  // ---- take

  private static void takeOfAKeyThatIsNotThere() {
    Pages.sentence("NONE: it is not there");
    Pages x = new Pages();
    x.refused(NONE, () -> x.take("a"));
    Pages y = Pages.pairs(24);
    y.refused(NONE, () -> y.take("a"));
    y.refused(NONE, () -> y.take("aaa"));
    y.refused(NONE, () -> y.take("ay"));
    y.refused(NONE, () -> y.take("ahz"));
    y.refused(NONE, () -> y.take("zzzzz"));
  }

  private static void itsEntryGoes() {
    Pages.sentence("TAKE a KEY: its ENTRY goes");
    Pages x = new Pages();
    x.puts(1, "a");
    x.puts(0, "bb");
    x.puts(255, "ccc");
    x.puts(4, "dddd");
    due(x.take("bb"), 0);
    x.dueLeaf(0, 0, "a=1 ccc=255 dddd=4");
    due(x.take("dddd"), 4);
    x.dueLeaf(0, 0, "a=1 ccc=255");
    due(x.take("a"), 1);
    x.dueLeaf(0, 0, "ccc=255");
    due(x.take("ccc"), 255);
    x.dueLeaf(0, 0, "");
    due(x.take("ccc"), NONE);
  }

  private static void theRootIsNotMended() {
    Pages.sentence("If the LEAF is not the ROOT");
    Pages x = Pages.pairs(8);
    for (int i = 0; i < 8; i++) {
      due(x.take(i, 2), 7);
      due(x.page(0, 3), 35 - 4 * (i + 1));
      x.dueCounts(7 - i, 1, 0, 31);
    }
    x.dueLeaf(0, 0, "");
    x.dueTimes(0, 0, 0, 0);
  }

  private static void aLeafOf32IsNotMended() {
    Pages.sentence("TAKE: USED is below 32: of the LEAF");
    Pages x = Pages.pairs(16);
    x.puts(7, "apa");
    due(x.take("ao"), 7);
    due(x.page(1, 3), 36);
    due(x.take("an"), 7);
    due(x.page(1, 3), 32);
    x.dueTimes(0, 1, 0, 0);
    x.dueCounts(15, 2, 2, 29);
    Pages y = Pages.pairs(16);
    due(y.page(1, 3), 35);
    due(y.take("ap"), 7);
    y.dueTimes(0, 1, 1, 0);
    y.dueLeaf(0, 0, Pages.row("aa", 15));
  }

  private static void mendedWithTheNext() {
    Pages.sentence("it is MENDED with a neighbour: the next child of the same INNER, if there is one");
    Pages x = Pages.pairs(24);
    due(x.take("aa"), 7);
    x.dueLeaf(0, 4, Pages.row("ab", 15));
    x.dueLeaf(3, 0, Pages.row("aq", 8));
    x.dueInner(2, 0, "aq=3");
    Pages y = Pages.pairs(24);
    due(y.take("ai"), 7);
    y.dueLeaf(0, 2, Pages.row("aa", 8));
    y.dueLeaf(1, 0, Pages.row("aj", 15));
    y.dueInner(2, 0, "ai=1");
  }

  private static void mendedWithTheOneAhead() {
    Pages.sentence("it is MENDED with a neighbour: .. else the one ahead");
    Pages x = Pages.pairs(24);
    due(x.take("ax"), 7);
    x.dueLeaf(0, 2, Pages.row("aa", 8));
    x.dueLeaf(1, 0, Pages.row("ai", 15));
    x.dueFree(3);
    x.dueInner(2, 0, "ai=1");
  }

  /** Page 6 is the last child of page 2; the leaf behind it, page 7, is a child of page 11. */
  private static void notMendedWithAChildOfAnother() {
    Pages.sentence("it is MENDED with a neighbour: .. of the same INNER");
    Pages x = steps(STEPS);
    due(x.take("aaaaz"), 7);
    x.dueLeaf(5, 7, Pages.row("aaaau", 5));
    x.dueLeaf(6, 8, Pages.row("aaaba", 4));
    x.dueLeaf(7, 9, Pages.row("aaabe", 5));
    x.dueInner(2, 0, "aaaaf=1 aaaak=3 aaaap=4 aaaau=5 aaab=6");
    x.dueInner(12, 2, "aaabe=11");
    x.dueTimes(0, 10, 0, 1);
  }

  private static void leavesOf61BytesAreJoined() {
    Pages.sentence("If ENTRIES of both have 61 BYTES or fewer, they are JOINED: LEAVES");
    Pages x = Pages.pairs(16);
    x.puts(7, "aaa");
    due(x.take("aa"), 7);
    due(x.take("ap"), 7);
    x.dueLeaf(0, 0, "aaa=7 " + Pages.row("ab", 14));
    due(x.page(0, 3), 64);
    x.dueTimes(0, 1, 1, 0);
    Pages y = Pages.pairs(16);
    y.puts(7, "aaaa");
    due(y.take("aa"), 7);
    due(y.take("ap"), 7);
    y.dueLeaf(0, 2, "aaaa=7 " + Pages.row("ab", 7));
    y.dueLeaf(1, 0, Pages.row("ai", 7));
    y.dueTimes(0, 1, 0, 1);
  }

  private static void whatJoinedMeans() {
    Pages.sentence("JOINED: all are in the left one, LEAVES are linked, the right one is FREE, its ENTRY in the INNER goes");
    Pages x = Pages.pairs(32);
    x.dueInner(2, 0, "ai=1 aq=3 ay=4");
    due(x.take("ai"), 7);
    x.dueLeaf(0, 2, Pages.row("aa", 8));
    x.dueLeaf(1, 5, Pages.row("aj", 15));
    x.dueLeaf(4, 0, Pages.row("ay", 8));
    x.dueFree(3);
    x.dueInner(2, 0, "ai=1 ay=4");
    x.dueCounts(31, 2, 2, 28, 3 + 32 + 3 + 60 + 3 + 32 + 3 + 8, 3, 0, 4);
  }

  /** Pages 0 and 1 are shared first, then joined; page 2 has separators of 7 7 5 5 5, or of 7 7 5 5 4 bytes then. */
  private static void anInnerOf32IsNotMended() {
    Pages.sentence("then that INNER, if it is not the ROOT and USED is below 32, is MENDED likewise");
    Pages x = Pages.leaves("aaaaa", "aaaaf", "aaaak", "aaaap", "aabaa", "aacaa", "aadaa", "aadaf", "aadak", "aadap", "aadau");
    due(x.take("aaaaa"), 7);
    due(x.take("aaaab"), 7);
    x.dueInner(2, 0, "aaaak=3 aaaap=4 aab=5 aac=6 aad=7");
    due(x.page(2, 3), 32);
    x.dueInner(13, 2, "aadaf=12");
    x.dueCounts(52, 3, 13, 19);
    x.dueTimes(0, 11, 1, 1);
    Pages y = Pages.leaves("aaaaa", "aaaaf", "aaaak", "aaaap", "aabaa", "aacaa", "abaaa", "abaaf", "abaak", "abaap", "abaau");
    due(y.take("aaaaa"), 7);
    y.dueInner(2, 0, "aaaag=1 aaaak=3 aaaap=4 aab=5 aac=6 ab=7");
    due(y.take("aaaab"), 7);
    y.dueInner(2, 0, "aaaak=3 aaaap=4 aab=5 aac=6 ab=7 abaaf=8 abaak=9 abaap=10 abaau=11");
    y.dueCounts(52, 2, 2, 21);
    y.dueTimes(0, 11, 2, 1);
  }

  private static void anInnerRootBelow32IsNotMended() {
    Pages.sentence("then that INNER, if it is not the ROOT ..");
    Pages x = Pages.pairs(32);
    due(x.take("aa"), 7);
    due(x.page(2, 3), 11);
    x.dueInner(2, 0, "aq=3 ay=4");
    x.dueCounts(31, 2, 2, 28);
    x.dueTimes(0, 3, 1, 0);
  }

  /** Page 2 has 28 bytes, the separator 7, page 11 26 or 27: it is joined with 61, shared with 62. */
  private static void innerOnesOf61BytesAreJoined() {
    Pages.sentence("If ENTRIES of both (of INNER ones with the SEPARATOR between) have 61 BYTES or fewer, they are JOINED: INNER ones");
    Pages x = steps(STEPS, "aabaa");
    x.dueInner(11, 7, "aaabj=8 aaabo=9 aaabt=10 aab=13");
    due(x.take("aaaaa"), 7);
    due(x.take("aaaab"), 7);
    x.dueInner(2, 0, "aaaak=3 aaaap=4 aaaau=5 aaaaz=6 aaabe=7 aaabj=8 aaabo=9 aaabt=10 aab=13");
    due(x.page(2, 3), 64);
    x.dueFree(11);
    x.dueFree(12);
    x.dueCounts(52, 2, 2, 21);
    x.dueTimes(0, 11, 2, 1);
  }

  private static void innerOnesOf62BytesAreShared() {
    Pages.sentence("Else they are SHARED, the SEPARATOR between them is another one: INNER ones");
    Pages x = steps(STEPS, "aaaca");
    x.dueInner(11, 7, "aaabj=8 aaabo=9 aaabt=10 aaac=13");
    due(x.take("aaaaa"), 7);
    due(x.take("aaaab"), 7);
    x.dueInner(2, 0, "aaaak=3 aaaap=4 aaaau=5 aaaaz=6 aaabe=7");
    x.dueInner(11, 8, "aaabo=9 aaabt=10 aaac=13");
    x.dueInner(12, 2, "aaabj=11");
    x.dueCounts(52, 3, 12, 19);
    x.dueTimes(0, 11, 1, 2);
  }

  private static void theLastInnerIsJoinedWithTheOneAhead() {
    Pages.sentence("MENDED likewise: .. else the one ahead: INNER ones");
    Pages x = steps(STEPS);
    due(x.take("aaabt"), 7);
    x.dueInner(2, 0, "aaaaf=1 aaaak=3 aaaap=4 aaaau=5 aaaaz=6 aaabe=7 aaabj=8 aaabo=9");
    x.dueLeaf(9, 0, Pages.row("aaabo", 5) + " " + Pages.row("aaabu", 3));
    x.dueFree(10);
    x.dueFree(11);
    x.dueFree(12);
    x.dueCounts(48, 2, 2, 22);
    x.dueTimes(0, 10, 2, 0);
  }

  private static void aRootWithoutEntriesGoes() {
    Pages.sentence("if it is the ROOT and has no ENTRIES, its FIRST is the ROOT, and it is FREE");
    Pages x = Pages.pairs(24);
    due(x.take("aa"), 7);
    x.dueInner(2, 0, "aq=3");
    x.dueCounts(23, 2, 2, 29);
    Pages y = Pages.pairs(16);
    due(y.take("aa"), 7);
    y.dueLeaf(0, 0, Pages.row("ab", 15));
    y.dueFree(2);
    y.dueCounts(15, 1, 0, 31, 63, 1, 0, 0);
  }

  private static void leavesOf62BytesAreShared() {
    Pages.sentence("Else they are SHARED, the SEPARATOR between them is another one: LEAVES");
    Pages x = Pages.pairs(17);
    due(x.take("aa"), 7);
    x.dueLeaf(0, 2, Pages.row("ab", 8));
    x.dueLeaf(1, 0, Pages.row("aj", 8));
    x.dueInner(2, 0, "aj=1");
    x.dueTimes(0, 1, 0, 1);
    Pages y = Pages.pairs(16);
    y.puts(7, "aaa", "aab", "aac");
    due(y.take("ap"), 7);
    y.dueLeaf(0, 2, "aa=7 aaa=7 aab=7 aac=7 " + Pages.row("ab", 5));
    y.dueLeaf(1, 0, Pages.row("ag", 9));
    y.dueInner(2, 0, "ag=1");
  }

  /** The separator aab becomes aabab; the root has 62 bytes ahead of that, or 63. */
  private static void sharedIfTheInnerAboveHas64() {
    Pages.sentence("but if USED of the INNER above were above 64 by that, all stays as it is: 64");
    Pages x = Pages.leaves("aaaaa", "aabaa", "aacaa", "aacaf", "aacak", "aacap", "aacau", "aacaz", "aacbe", "aacbj");
    due(x.page(2, 3), 62);
    due(x.take("aaaaa"), 7);
    x.dueLeaf(0, 2, Pages.row("aaaab", 4) + " aabaa=7");
    x.dueLeaf(1, 4, Pages.row("aabab", 4));
    x.dueInner(2, 0, "aabab=1 aac=3 aacaf=4 aacak=5 aacap=6 aacau=7 aacaz=8 aacbe=9 aacbj=10");
    due(x.page(2, 3), 64);
    x.dueTimes(0, 9, 0, 1);
  }

  private static void allStaysIfTheInnerAboveHadMore() {
    Pages.sentence("but if USED of the INNER above were above 64 by that, all stays as it is (the KEY is gone): 65");
    Pages x = Pages.leaves("aaaaa", "aabaa", "aabba", "aabbf", "aabbk", "aabbp", "aabbu", "aabbz", "aabce", "aabcj");
    String root = "aabb=3 aabbf=4 aabbk=5 aabbp=6 aabbu=7 aabbz=8 aabce=9 aabcj=10";
    due(x.page(2, 3), 63);
    due(x.take("aaaaa"), 7);
    due(x.find("aaaaa"), NONE);
    x.dueLeaf(0, 2, Pages.row("aaaab", 4));
    x.dueLeaf(1, 4, Pages.row("aabaa", 5));
    x.dueInner(2, 0, "aab=1 " + root);
    x.dueTimes(0, 9, 0, 0);
    due(x.take("aaaab"), 7);
    x.dueLeaf(0, 4, Pages.row("aaaac", 3) + " " + Pages.row("aabaa", 5));
    x.dueInner(2, 0, root);
    x.dueTimes(0, 9, 1, 0);
  }

  private static void staysDownToOneEntry() {
    Pages.sentence("but if USED of the INNER above were above 64 by that, all stays as it is: again and again");
    Pages x = Pages.leafOfOneEntry();
    x.dueLeaf(0, 2, "aaaae=7");
    x.dueLeaf(1, 4, "aab=7 " + Pages.row("aabaa", 8));
    due(x.page(1, 3), 64);
    due(x.page(2, 3), 63);
    x.dueTimes(0, 9, 0, 0);
    due(x.take("aaaae"), 7);
    x.dueLeaf(0, 4, "aab=7 " + Pages.row("aabaa", 8));
    x.dueFree(1);
    x.dueTimes(0, 9, 1, 0);
  }

  /** Page 11 has 24 bytes since it was split; only a join in it would have it mended. */
  private static void sharedLeavesDoNotMendTheInner() {
    Pages.sentence("JOINED: .. then that INNER ..: not when they are SHARED");
    Pages x = steps(STEPS);
    due(x.page(11, 3), 24);
    due(x.take("aaabe"), 7);
    x.dueLeaf(7, 9, Pages.row("aaabf", 5));
    x.dueLeaf(8, 10, Pages.row("aaabk", 4));
    x.dueInner(11, 7, "aaabk=8 aaabo=9 aaabt=10");
    x.dueInner(12, 2, "aaabe=11");
    x.dueTimes(0, 10, 0, 1);
  }

  // ---- load

  private static void loadFrom() {
    Pages.sentence("LOAD f, s, n (f 0 .. 17575");
    Pages x = Pages.pairs(20);
    for (int f : new int[] {-1, 17576, Pages.LOWEST, Pages.HIGHEST}) x.refused(BAD, () -> x.load(f, 1, 1));
    due(x.load(0, 1, 1), 1);
    x.dueLeaf(0, 0, "aaa=0");
    due(x.load(17575, 1, 1), 1);
    x.dueLeaf(0, 0, "zzz=0");
  }

  private static void loadSteps() {
    Pages.sentence("LOAD f, s, n (.. s 1 .. 99");
    Pages x = Pages.pairs(20);
    for (int s : new int[] {0, -1, 100, Pages.LOWEST, Pages.HIGHEST}) {
      x.refused(BAD, () -> x.load(0, s, 1));
      x.refused(BAD, () -> x.load(0, s, 2));
    }
    due(x.load(0, 1, 2), 1);
    x.dueLeaf(0, 0, "aaa=0 aab=1");
    due(x.load(0, 99, 2), 1);
    x.dueLeaf(0, 0, "aaa=0 adv=1");
    due(x.load(17575, 99, 1), 1);
  }

  private static void loadKeys() {
    Pages.sentence("LOAD f, s, n (.. n 1 .. 60");
    Pages x = Pages.pairs(20);
    for (int n : new int[] {0, -1, 61, Pages.LOWEST, Pages.HIGHEST}) x.refused(BAD, () -> x.load(0, 1, n));
    due(x.load(0, 1, 1), 1);
    due(x.count(0), 1);
    due(x.load(0, 1, 60), 2);
    due(x.count(0), 60);
    due(x.value(59), 59);
  }

  private static void loadUpTo() {
    Pages.sentence("f and s times n less 1 is 17575 at most");
    Pages x = Pages.pairs(20);
    int[][] bad = {{17575, 1, 2}, {17516 + 1, 1, 60}, {17575 - 59 * 99 + 1, 99, 60}, {17476 + 1, 99, 2}, {17575, 99, 60}, {17574, 2, 2}};
    for (int[] b : bad) x.refused(BAD, () -> x.load(b[0], b[1], b[2]));
    int[][] good = {{17574, 1, 2}, {17516, 1, 60}, {17575 - 59 * 99, 99, 60}, {17476, 99, 2}, {17573, 2, 2}};
    for (int[] g : good) {
      due(x.load(g[0], g[1], g[2]), g[2] > 12 ? 2 : 1);
      due(x.find("zzz"), g[2] - 1);
      due(x.count(0), g[2]);
    }
  }

  private static void loadFreesAllPages() {
    Pages.sentence("LOAD: all PAGES become FREE");
    Pages x = new Pages().rise("aaaaa", 119);
    due(x.load(17575, 99, 1), 1);
    x.dueCounts(1, 1, 0, 31, 8, 1, 0, 0);
    x.dueLeaf(0, 0, "zzz=0");
    for (int p = 1; p < 4; p++) x.dueFree(p);
    due(x.check(0, 0, 1), 0);
    x.dueTimes(0, 23 + 3, 0, 0);
    due(x.put("z", 7), NONE);
  }

  private static void loadFillsLeaves() {
    Pages.sentence("LEAVES 0, 1, .. have as many as come in, one behind the other");
    Pages x = new Pages();
    due(x.load(0, 1, 12), 1);
    due(x.page(0, 3), 63);
    due(x.count(5), 1);
    due(x.load(0, 1, 13), 2);
    due(x.count(5), 2);
    due(x.load(0, 1, 24), 2);
    due(x.page(0, 1), 12);
    due(x.page(1, 1), 12);
    due(x.count(5), 2);
    due(x.load(0, 1, 60), 2);
    for (int p = 0; p < 5; p++) {
      due(x.page(p, 1), 12);
      due(x.page(p, 2), p < 4 ? p + 2 : 0);
    }
    x.dueCounts(60, 2, 5, 26, 5 * 63 + 3 + 4 * 5, 5, 0, 12);
    for (int k = 0; k < 60; k++) due(x.value(k), k);
  }

  private static void aLeafThatIsTheOnlyOne() {
    Pages.sentence("LOAD: if the last is not the only one");
    Pages x = new Pages();
    for (int n = 1; n <= 12; n++) {
      due(x.load(0, 1, n), 1);
      due(x.page(0, 1), n);
      x.dueCounts(n, 1, 0, 31, 3 + 5 * n, 1, 0, 0);
    }
  }

  /** A last leaf of five keys has 28 bytes, of six 33. */
  private static void theLastLeafBelow32IsShared() {
    Pages.sentence("LOAD: .. and USED below 32, it and the one ahead are SHARED");
    Pages x = new Pages();
    int[][] due = {{13, 7, 6}, {14, 7, 7}, {15, 8, 7}, {16, 8, 8}, {17, 9, 8}, {18, 12, 6}, {19, 12, 7}, {24, 12, 12}};
    for (int[] d : due) {
      due(x.load(0, 1, d[0]), 2);
      due(x.page(0, 1), d[1]);
      due(x.page(1, 1), d[2]);
      due(x.count(5), 2);
    }
    for (int ahead = 1; ahead <= 3; ahead++) {
      due(x.load(0, 1, 12 * ahead + 17), 2);
      due(x.page(ahead - 1, 1), 12);
      due(x.page(ahead, 1), 9);
      due(x.page(ahead + 1, 1), 8);
      due(x.load(0, 1, 12 * ahead + 18), 2);
      due(x.page(ahead, 1), 12);
      due(x.page(ahead + 1, 1), 6);
    }
    x.dueTimes(0, 0, 0, 0);
    due(x.load(24, 1, 13), 2);
    x.dueLeaf(0, 2, "aay=0 aaz=1 aba=2 abb=3 abc=4 abd=5 abe=6");
    x.dueLeaf(1, 0, "abf=7 abg=8 abh=9 abi=10 abj=11 abk=12");
    x.dueInner(2, 0, "abf=1");
  }

  private static void levelsAsLongAsThereIsMoreThanOne() {
    Pages.sentence("Then, as long as a level has more than one PAGE: INNER ones, the lowest FREE PAGES .. The last PAGE is the ROOT");
    Pages x = new Pages();
    due(x.load(0, 1, 12), 1);
    x.dueCounts(12, 1, 0, 31);
    for (int leaves = 2; leaves <= 5; leaves++) {
      due(x.load(0, 1, 12 * leaves), 2);
      x.dueCounts(12 * leaves, 2, leaves, 31 - leaves);
    }
    due(x.load(0, 99, 60), 2);
    x.dueInner(5, 0, "bt=1 dn=2 fh=3 h=4");
    due(x.load(0, 1, 60), 2);
    x.dueInner(5, 0, "aam=1 aay=2 abk=3 abw=4");
    due(x.check(0, 0, 1), 0);
  }

  public static void main(String[] args) {
    putOfAKeyThatIsThere();
    putComesInItsPlace();
    aRootOf64IsNotSplit();
    aLeafOf64IsNotSplit();
    anInnerRootOf64IsNotSplit();
    anInnerOf64IsNotSplit();
    theLowestFreePage();
    theFirstLeafIsSplit();
    aLeafBetweenIsSplit();
    theLastLeafIsSplit();
    theNewRoot();
    fullIfNoMoreThanLevels();
    takeOfAKeyThatIsNotThere();
    itsEntryGoes();
    theRootIsNotMended();
    aLeafOf32IsNotMended();
    mendedWithTheNext();
    mendedWithTheOneAhead();
    notMendedWithAChildOfAnother();
    leavesOf61BytesAreJoined();
    whatJoinedMeans();
    anInnerOf32IsNotMended();
    anInnerRootBelow32IsNotMended();
    innerOnesOf61BytesAreJoined();
    innerOnesOf62BytesAreShared();
    theLastInnerIsJoinedWithTheOneAhead();
    aRootWithoutEntriesGoes();
    leavesOf62BytesAreShared();
    sharedIfTheInnerAboveHas64();
    allStaysIfTheInnerAboveHadMore();
    staysDownToOneEntry();
    sharedLeavesDoNotMendTheInner();
    loadFrom();
    loadSteps();
    loadKeys();
    loadUpTo();
    loadFreesAllPages();
    loadFillsLeaves();
    aLeafThatIsTheOnlyOne();
    theLastLeafBelow32IsShared();
    levelsAsLongAsThereIsMoreThanOne();
    Pages.end();
  }
}
