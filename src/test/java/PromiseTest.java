/** Each promise by itself: ordinary inputs, the edges that the document names, and wrong inputs. */
public final class PromiseTest {
  private static final int BAD = TreeCompare.BAD;
  private static final int[] NOT_A_TREE = {-1, 2, 3, 32, 33, Integer.MIN_VALUE, Integer.MAX_VALUE};
  private static final int[] NOT_A_SET = {-1, -128, 128, 129, 255, 256, Integer.MIN_VALUE, Integer.MAX_VALUE};
  private static final int[] NOT_A_MEMBER = {-1, 7, 8, 32, 33, -32, Integer.MIN_VALUE, Integer.MAX_VALUE};

  private static int wrong = 0;
  private static int promise = 0;

  private static void due(String what, long got, long want) {
    if (got != want) {
      wrong++;
      System.out.println("promise " + promise + ": " + what + " answered " + got + ", due is " + want);
    }
  }

  private static void due(String what, boolean got, boolean want) {
    due(what, got ? 1L : 0L, want ? 1L : 0L);
  }

  /** A new object whose trees were given these groups. */
  private static TreeCompare made(int[] groups0, int[] groups1) {
    TreeCompare x = new TreeCompare();
    for (int g : groups0) due("add(0, " + g + ")", x.add(0, g), true);
    for (int g : groups1) due("add(1, " + g + ")", x.add(1, g), true);
    return x;
  }

  private static int[] of(int... groups) {
    return groups;
  }

  /**
   * That tree t has these groups beside those that every tree has, and no others. A group of two members or
   * more is the join of some two of them, so 21 joins and the count see every group; that is 22 calls.
   */
  private static void dueGroups(String when, TreeCompare x, int t, int... more) {
    boolean[] has = new boolean[128];
    for (int g : more) has[g] = true;
    has[127] = true;
    boolean[] seen = new boolean[128];
    for (int a = 0; a < 7; a++) {
      for (int b = 0; b < a; b++) {
        int join = x.join(t, 1 << a | 1 << b);
        if (join >= 0 && join < 128) seen[join] = true;
      }
    }
    for (int g = 0; g < 128; g++) due(when + ", group " + g + " of tree " + t, seen[g], has[g]);
    due(when + ", groups(" + t + ")", x.groups(t), 8 + more.length);
  }

  private static void newObject() {
    promise = 1;
    TreeCompare x = new TreeCompare();
    dueGroups("new", x, 0);
    dueGroups("new", x, 1);
    for (int t = 0; t < 2; t++) {
      for (int m = 0; m < 7; m++) {
        due("join(" + t + ", " + (1 << m) + ")", x.join(t, 1 << m), 1 << m);
        due("depth(" + t + ", " + m + ")", x.depth(t, m), 2);
      }
    }
    TreeCompare other = new TreeCompare();
    x.add(0, 3);
    dueGroups("after an add to another object", other, 0);
    TreeCompare later = new TreeCompare();
    dueGroups("made after an add to another object", later, 0);
  }

  private static void add() {
    promise = 2;
    TreeCompare x = made(of(3, 15, 112), of());
    dueGroups("after adds", x, 0, 3, 15, 112);
    dueGroups("after adds to tree 0", x, 1);
    due("add(0, 15) again", x.add(0, 15), true);
    due("add(0, 127), in every tree", x.add(0, 127), true);
    due("add(0, 64), in every tree", x.add(0, 64), true);
    dueGroups("after adds of what is there", x, 0, 3, 15, 112);
    for (int g : of(5, 6, 31, 17, 48 | 8, 113, 126, 63, 7 | 64)) {
      due("add(0, " + g + "), which crosses", x.add(0, g), false);
    }
    due("add(0, 0)", x.add(0, 0), false);
    for (int g : NOT_A_SET) due("add(0, " + g + ")", x.add(0, g), false);
    for (int t : NOT_A_TREE) due("add(" + t + ", 12)", x.add(t, 12), false);
    dueGroups("after refused adds", x, 0, 3, 15, 112);
    dueGroups("after refused adds", x, 1);
    due("add(0, 12), within a group", x.add(0, 12), true);
    due("add(0, 96), within a group", x.add(0, 96), true);
    due("add(1, 5), which crosses only the other tree's", x.add(1, 5), true);
    dueGroups("after more adds", x, 0, 3, 12, 15, 96, 112);
    dueGroups("after more adds", x, 1, 5);
    due("add(0, 7) to a full tree", x.add(0, 7), false);

    TreeCompare around = made(of(3), of());
    due("add(0, 7), which holds a group", around.add(0, 7), true);
    due("add(0, 24), apart from all", around.add(0, 24), true);
    dueGroups("after adds around", around, 0, 3, 7, 24);
  }

  private static void remove() {
    promise = 3;
    TreeCompare x = made(of(3, 15, 112), of(3, 7));
    due("remove(0, 15)", x.remove(0, 15), true);
    dueGroups("after remove", x, 0, 3, 112);
    dueGroups("after remove from tree 0", x, 1, 3, 7);
    due("remove(0, 15) again", x.remove(0, 15), false);
    due("remove(0, 7), the other tree's", x.remove(0, 7), false);
    due("remove(0, 12), never there", x.remove(0, 12), false);
    due("remove(0, 127), in every tree", x.remove(0, 127), false);
    for (int m = 0; m < 7; m++) {
      due("remove(1, " + (1 << m) + "), in every tree", x.remove(1, 1 << m), false);
    }
    due("remove(0, 0)", x.remove(0, 0), false);
    for (int g : NOT_A_SET) due("remove(0, " + g + ")", x.remove(0, g), false);
    for (int t : NOT_A_TREE) due("remove(" + t + ", 3)", x.remove(t, 3), false);
    dueGroups("after refused removes", x, 0, 3, 112);
    dueGroups("after refused removes", x, 1, 3, 7);
    due("remove(1, 3)", x.remove(1, 3), true);
    dueGroups("after remove from tree 1", x, 0, 3, 112);
    dueGroups("after remove from tree 1", x, 1, 7);
    due("add(1, 6), which crossed what was removed", x.add(1, 6), true);
    due("add(1, 3), which now crosses", x.add(1, 3), false);
  }

  private static void clear() {
    promise = 4;
    TreeCompare x = made(of(3, 7, 15, 31, 63), of(96, 112, 3));
    for (int t : NOT_A_TREE) due("clear(" + t + ")", x.clear(t), false);
    dueGroups("after refused clears", x, 0, 3, 7, 15, 31, 63);
    dueGroups("after refused clears", x, 1, 3, 96, 112);
    due("clear(0)", x.clear(0), true);
    dueGroups("after clear(0)", x, 0);
    dueGroups("after clear(0)", x, 1, 3, 96, 112);
    due("clear(0) again", x.clear(0), true);
    due("clear(1)", x.clear(1), true);
    dueGroups("after clear(1)", x, 0);
    dueGroups("after clear(1)", x, 1);
    due("join(1, 8)", x.join(1, 8), 8);
    due("add(0, 6) after clear", x.add(0, 6), true);
  }

  private static void groups() {
    promise = 5;
    TreeCompare x = new TreeCompare();
    due("groups(0) when new", x.groups(0), 8);
    due("groups(1) when new", x.groups(1), 8);
    int count = 8;
    for (int g : of(3, 12, 15, 48, 112)) {
      x.add(1, g);
      due("groups(1) after add " + g, x.groups(1), ++count);
      due("groups(0) after adds to tree 1", x.groups(0), 8);
    }
    x.add(1, 15);
    x.add(1, 9);
    due("groups(1) when full", x.groups(1), 13);
    x.remove(1, 15);
    due("groups(1) after remove", x.groups(1), 12);
    for (int t : NOT_A_TREE) due("groups(" + t + ")", x.groups(t), BAD);
  }

  private static void join() {
    promise = 6;
    TreeCompare x = made(of(3, 7, 24, 56, 63), of(96));
    due("join(0, 0)", x.join(0, 0), 0);
    due("join(1, 0)", x.join(1, 0), 0);
    for (int m = 0; m < 7; m++) due("join(0, " + (1 << m) + ")", x.join(0, 1 << m), 1 << m);
    due("join(0, 3), itself a group", x.join(0, 3), 3);
    due("join(0, 5)", x.join(0, 5), 7);
    due("join(0, 6)", x.join(0, 6), 7);
    due("join(0, 40)", x.join(0, 40), 56);
    due("join(0, 24)", x.join(0, 24), 24);
    due("join(0, 34)", x.join(0, 34), 63);
    due("join(0, 65)", x.join(0, 65), 127);
    due("join(0, 127)", x.join(0, 127), 127);
    due("join(1, 3)", x.join(1, 3), 127);
    due("join(1, 96)", x.join(1, 96), 96);
    for (int s : NOT_A_SET) due("join(0, " + s + ")", x.join(0, s), BAD);
    for (int t : NOT_A_TREE) {
      due("join(" + t + ", 3)", x.join(t, 3), BAD);
      due("join(" + t + ", 0)", x.join(t, 0), BAD);
    }
  }

  private static void says() {
    promise = 7;
    TreeCompare x = made(of(3, 7, 96), of(6));
    due("says(0, 2, 0, 1)", x.says(0, 2, 0, 1), 0);
    due("says(0, 2, 1, 0)", x.says(0, 2, 1, 0), 0);
    due("says(0, 0, 2, 1)", x.says(0, 0, 2, 1), 1);
    due("says(0, 1, 2, 0)", x.says(0, 1, 2, 0), 1);
    due("says(0, 0, 1, 2)", x.says(0, 0, 1, 2), 2);
    due("says(0, 1, 0, 2)", x.says(0, 1, 0, 2), 2);
    due("says(1, 0, 1, 2)", x.says(1, 0, 1, 2), 0);
    due("says(0, 0, 2, 3), by the greater group", x.says(0, 0, 2, 3), 2);
    due("says(0, 6, 0, 5)", x.says(0, 6, 0, 5), 1);
    due("says(0, 0, 3, 4)", x.says(0, 0, 3, 4), 3);
    due("says(0, 0, 3, 5)", x.says(0, 0, 3, 5), 3);
    due("says(1, 3, 4, 5)", x.says(1, 3, 4, 5), 3);
    TreeCompare wide = made(of(7), of());
    due("says(0, 0, 1, 2), all in one group", wide.says(0, 0, 1, 2), 3);
    due("says(0, 3, 1, 2)", wide.says(0, 3, 1, 2), 0);
    for (int t : NOT_A_TREE) due("says(" + t + ", 0, 1, 2)", x.says(t, 0, 1, 2), BAD);
    for (int m : NOT_A_MEMBER) {
      due("says(0, " + m + ", 1, 2)", x.says(0, m, 1, 2), BAD);
      due("says(0, 1, " + m + ", 2)", x.says(0, 1, m, 2), BAD);
      due("says(0, 1, 2, " + m + ")", x.says(0, 1, 2, m), BAD);
    }
    due("says(0, 0, 0, 1)", x.says(0, 0, 0, 1), BAD);
    due("says(0, 0, 1, 0)", x.says(0, 0, 1, 0), BAD);
    due("says(0, 1, 0, 0)", x.says(0, 1, 0, 0), BAD);
    due("says(0, 6, 6, 6)", x.says(0, 6, 6, 6), BAD);
  }

  private static void decided() {
    promise = 8;
    TreeCompare x = new TreeCompare();
    due("decided(0) when new", x.decided(0), 0);
    x.add(0, 3);
    due("decided(0) with a pair", x.decided(0), 5);
    due("decided(1), the other tree", x.decided(1), 0);
    x.add(0, 7);
    due("decided(0) with a pair and a third", x.decided(0), 13);
    x.add(1, 63);
    due("decided(1) with six", x.decided(1), 15);
    x.add(0, 15);
    x.add(0, 31);
    x.add(0, 63);
    due("decided(0) when full", x.decided(0), 35);
    for (int t : NOT_A_TREE) due("decided(" + t + ")", x.decided(t), BAD);
  }

  private static void groupDistance() {
    promise = 9;
    due("groupDistance() when new", new TreeCompare().groupDistance(), 0);
    due("groupDistance(), one side", made(of(3, 7), of()).groupDistance(), 2);
    due("groupDistance(), other side", made(of(), of(3, 7, 96)).groupDistance(), 3);
    due("groupDistance(), both sides", made(of(3, 7), of(7, 96)).groupDistance(), 2);
    due("groupDistance(), the same", made(of(3, 7), of(7, 3)).groupDistance(), 0);
    due("groupDistance(), the most", made(of(3, 7, 15, 31, 63), of(96, 112, 120, 124, 126)).groupDistance(), 10);
  }

  private static void tripleDistance() {
    promise = 10;
    due("tripleDistance() when new", new TreeCompare().tripleDistance(), 0);
    due("tripleDistance(), one side", made(of(3), of()).tripleDistance(), 5);
    due("tripleDistance(), other side", made(of(), of(63)).tripleDistance(), 15);
    due("tripleDistance(), both decided otherwise", made(of(3), of(6)).tripleDistance(), 9);
    due("tripleDistance(), the same", made(of(3, 96), of(96, 3)).tripleDistance(), 0);
    due("tripleDistance(), groups that decide some alike", made(of(3, 7), of(7)).tripleDistance(), 1);
    due("tripleDistance(), the most", made(of(3, 7, 15, 31, 63), of(96, 112, 120, 124, 126)).tripleDistance(), 35);
  }

  private static void dueAgreed(TreeCompare x, int size, int set) {
    promise = 11;
    due("agreement()", x.agreement(), size);
    promise = 12;
    due("agreeingSet()", x.agreeingSet(), set);
  }

  private static void agreementAndAgreeingSet() {
    promise = 11;
    dueAgreed(new TreeCompare(), 7, 127);
    dueAgreed(made(of(3), of()), 6, 125);
    dueAgreed(made(of(), of(96)), 6, 63);
    dueAgreed(made(of(3, 7, 15), of(15, 7, 3)), 7, 127);
    dueAgreed(made(of(3, 7, 15, 31, 63), of(96, 112, 120, 124, 126)), 2, 3);
    dueAgreed(made(of(3, 12, 48, 15, 63), of(5, 10, 80, 15, 95)), 3, 19);
    // Without member 6 both are level, and no other six members are spared of every dispute.
    dueAgreed(made(of(63), of()), 6, 63);
    // Without member 0 both are level; any other six have a group against level.
    dueAgreed(made(of(126), of()), 6, 126);
    // Member 1 alone stands in the way of both groups.
    dueAgreed(made(of(3), of(6)), 6, 125);
    // One of 0 and 1 and one of 5 and 6 must go: of the four sets left, the least is without 1 and 6.
    TreeCompare x = made(of(3), of(96));
    dueAgreed(x, 5, 61);
    x.clear(1);
    dueAgreed(x, 6, 125);
    x.remove(0, 3);
    dueAgreed(x, 7, 127);
  }

  private static void agree() {
    promise = 13;
    TreeCompare x = made(of(3), of());
    due("agree(0)", x.agree(0), true);
    for (int m = 0; m < 7; m++) due("agree(" + (1 << m) + ")", x.agree(1 << m), true);
    due("agree(3)", x.agree(3), true);
    due("agree(6)", x.agree(6), true);
    due("agree(7)", x.agree(7), false);
    due("agree(67)", x.agree(67), false);
    due("agree(13)", x.agree(13), true);
    due("agree(125)", x.agree(125), true);
    due("agree(126)", x.agree(126), true);
    due("agree(127)", x.agree(127), false);
    for (int s : NOT_A_SET) due("agree(" + s + ")", x.agree(s), false);
    TreeCompare same = new TreeCompare();
    due("agree(127) when new", same.agree(127), true);
    for (int s : NOT_A_SET) due("agree(" + s + ") when new", same.agree(s), false);
    TreeCompare both = made(of(3), of(6));
    due("agree(7), decided otherwise", both.agree(7), false);
    due("agree(11), decided in tree 0 alone", both.agree(11), false);
    due("agree(14), decided in tree 1 alone", both.agree(14), false);
    due("agree(13)", both.agree(13), true);
    due("agree(7), decided alike", made(of(3), of(3, 7)).agree(7), true);
  }

  private static void together() {
    promise = 14;
    due("together() when new", new TreeCompare().together(), true);
    due("together(), one within the other", made(of(3), of(7)).together(), true);
    due("together(), one around the other", made(of(31), of(24)).together(), true);
    due("together(), apart", made(of(3, 7), of(96, 112)).together(), true);
    due("together(), the same", made(of(3, 7, 15, 31, 63), of(63, 31, 15, 7, 3)).together(), true);
    due("together(), crossing", made(of(3), of(6)).together(), false);
    due("together(), one of many crosses", made(of(3, 15, 96), of(3, 15, 48)).together(), false);
    TreeCompare x = made(of(63), of(126));
    due("together(), great groups that cross", x.together(), false);
    due("remove(1, 126)", x.remove(1, 126), true);
    due("together() after remove", x.together(), true);
    dueGroups("after together", x, 0, 63);
    dueGroups("after together", x, 1);
  }

  private static void common() {
    promise = 15;
    due("common() when new", new TreeCompare().common(), 8);
    due("common(), one side", made(of(3, 7), of()).common(), 8);
    due("common(), other side", made(of(), of(3, 7)).common(), 8);
    due("common(), some shared", made(of(3, 7), of(7, 96)).common(), 9);
    due("common(), all shared", made(of(3, 7, 15, 31, 63), of(63, 31, 15, 7, 3)).common(), 13);
  }

  private static void depth() {
    promise = 16;
    TreeCompare x = made(of(3, 7, 15, 31, 63), of(96));
    int[] deep = {7, 7, 6, 5, 4, 3, 2};
    int[] flat = {2, 2, 2, 2, 2, 3, 3};
    for (int m = 0; m < 7; m++) {
      due("depth(0, " + m + ")", x.depth(0, m), deep[m]);
      due("depth(1, " + m + ")", x.depth(1, m), flat[m]);
    }
    for (int t : NOT_A_TREE) due("depth(" + t + ", 0)", x.depth(t, 0), BAD);
    for (int m : NOT_A_MEMBER) {
      due("depth(0, " + m + ")", x.depth(0, m), BAD);
      due("depth(1, " + m + ")", x.depth(1, m), BAD);
    }
  }

  private static void room() {
    promise = 17;
    TreeCompare x = new TreeCompare();
    due("room(0) when new", x.room(0), 119);
    x.add(0, 3);
    // Sets with both or none of members 0 and 1: 63, without the five singles, the pair itself and all.
    due("room(0) with a pair", x.room(0), 56);
    due("room(1), the other tree", x.room(1), 119);
    x.add(1, 63);
    // The sets within the six: 63, without the six singles and the six themselves.
    due("room(1) with six", x.room(1), 56);
    x.add(0, 7);
    x.add(0, 15);
    x.add(0, 31);
    // 63, or member 5 with 6, or the five with member 6.
    due("room(0) with one place free", x.room(0), 3);
    x.add(0, 63);
    due("room(0) when full", x.room(0), 0);
    dueGroups("after room", x, 0, 3, 7, 15, 31, 63);
    for (int t : NOT_A_TREE) due("room(" + t + ")", x.room(t), BAD);
  }

  public static void main(String[] args) {
    newObject();
    add();
    remove();
    clear();
    groups();
    join();
    says();
    decided();
    groupDistance();
    tripleDistance();
    agreementAndAgreeingSet();
    agree();
    together();
    common();
    depth();
    room();
    System.out.println(wrong == 0 ? "all promises hold" : wrong + " answers are not as due");
    if (wrong != 0) System.exit(1);
  }
}
