import java.util.Arrays;

/**
 * One test for each sentence of the document that names a boundary case: too small, too large, empty, full,
 * wrapped around, refused. The list in main follows the document from its first line to its last.
 */
public final class BoundaryTest {
  private static final int BAD = TreeCompare.BAD;
  private static final int CALLS_PROMISED = 512;
  private static final int MOST_GROUPS = 13;
  private static final int[] TREES = {0, 1};

  // Next to the bounds, at the ends of int, and what a shift or a mask would take for a right argument.
  private static final int[] NOT_A_TREE = {
    -1, 2, -2, 3, 31, 32, 33, -32, -31, 64, 65, 256, 257, Integer.MIN_VALUE, Integer.MIN_VALUE + 1, Integer.MAX_VALUE
  };
  private static final int[] NOT_A_SET = {
    -1, 128, -125, 131, -2, 129, -128, 255, 256, 259, 1 << 30, Integer.MIN_VALUE, Integer.MIN_VALUE + 3,
    Integer.MAX_VALUE
  };
  private static final int[] NOT_A_MEMBER = {
    -1, 7, -2, 8, 31, 32, 33, 38, -32, -26, 64, 256, Integer.MIN_VALUE, Integer.MIN_VALUE + 1, Integer.MAX_VALUE
  };

  // Each with the groups of tree 0 and of tree 1: both empty, both with room left, both full, one of them full.
  private static final int[][][] STATES = {
    {{}, {}},
    {{3, 15, 112}, {3, 7}},
    {{3, 7, 15, 31, 63}, {3, 12, 15, 96, 112}},
    {{5, 18, 23, 40, 104}, {9, 20, 66, 86}}
  };
  private static final int[] RISING = {3, 7, 15, 31, 63};
  private static final int[] FALLING = {96, 112, 120, 124, 126};

  private static int wrong = 0;
  private static int checks = 0;
  private static String sentence = "";

  private interface Call {
    long on(TreeCompare x);
  }

  private static void sentence(String place, String words, Runnable test) {
    sentence = place + " '" + words + "'";
    checks = 0;
    try {
      test.run();
    } catch (RuntimeException thrown) {
      // The other sentences are still to be tested.
      wrong++;
      System.out.println(sentence + ": a call threw " + thrown);
    }
    if (checks == 0) {
      wrong++;
      System.out.println(sentence + ": nothing was checked");
    }
  }

  private static void due(String what, long got, long want) {
    checks++;
    if (got != want) {
      wrong++;
      System.out.println(sentence + ": " + what + " answered " + got + ", due is " + want);
    }
  }

  private static void due(String what, boolean got, boolean want) {
    due(what, num(got), num(want));
  }

  private static long num(boolean b) {
    return b ? 1 : 0;
  }

  private static int[] of(int... groups) {
    return groups;
  }

  private static TreeCompare made(int[] groups0, int[] groups1) {
    TreeCompare x = new TreeCompare();
    for (int g : groups0) x.add(0, g);
    for (int g : groups1) x.add(1, g);
    return x;
  }

  /** A new object whose tree t was given these groups, and the other tree none. */
  private static TreeCompare madeOne(int t, int[] groups) {
    return t == 0 ? made(groups, of()) : made(of(), groups);
  }

  private static boolean nestedOrApart(int g, int h) {
    int shared = g & h;
    return shared == 0 || shared == g || shared == h;
  }

  private static boolean inEveryTree(int set) {
    return set == 127 || Integer.bitCount(set) == 1;
  }

  /** What can be seen of an object: every group of either tree is the join of one or two members. 83 calls. */
  private static int[] look(TreeCompare x) {
    int[] seen = new int[83];
    int n = 0;
    for (int t : TREES) {
      for (int a = 0; a < 7; a++) {
        for (int b = 0; b <= a; b++) seen[n++] = x.join(t, 1 << a | 1 << b);
        seen[n++] = x.depth(t, a);
      }
      seen[n++] = x.groups(t);
      seen[n++] = x.decided(t);
      seen[n++] = x.room(t);
    }
    seen[n++] = x.groupDistance();
    seen[n++] = x.tripleDistance();
    seen[n++] = x.agreement();
    seen[n++] = x.agreeingSet();
    seen[n] = x.common() * 2 + (x.together() ? 1 : 0);
    return seen;
  }

  private static void dueAlike(String what, TreeCompare x, TreeCompare like) {
    due(what, Arrays.equals(look(x), look(like)), true);
  }

  /** That the call gives this answer, on empty trees, on fuller ones and on full ones, and changes nothing. */
  private static void dueUnchanged(String what, Call call, long want) {
    for (int[][] state : STATES) {
      TreeCompare x = made(state[0], state[1]);
      String on = what + " on " + Arrays.deepToString(state);
      due(on, call.on(x), want);
      dueAlike(on + " changes nothing, which", x, made(state[0], state[1]));
    }
  }

  /** That tree t has these groups beside those that every tree has, by the words of join. 136 calls. */
  private static void dueGroups(String what, TreeCompare x, int t, int... more) {
    for (int set = 1; set < 128; set++) {
      int least = 127;
      if (Integer.bitCount(set) == 1) least = set;
      for (int g : more) {
        if ((g & set) == set && Integer.bitCount(g) < Integer.bitCount(least)) least = g;
      }
      due(what + ", join(" + t + ", " + set + ")", x.join(t, set), least);
    }
    due(what + ", groups(" + t + ")", x.groups(t), 8 + more.length);
  }

  // What it is.

  private static final Call[] FILLERS = {
    x -> num(x.add(0, 3)) + num(x.remove(0, 3)),
    x -> num(x.add(2, 3)) + num(x.add(0, 128)),
    x -> num(x.clear(0)) + num(x.clear(1)),
    x -> x.agreement() + x.agreeingSet()
  };

  /** An object on which 511 calls were made, the last of them so that the trees have 3, 7 and 6, 96. */
  private static TreeCompare beforeItsLastCall(Call twoCalls) {
    TreeCompare x = new TreeCompare();
    for (int made = 0; made < CALLS_PROMISED - 6; made += 2) twoCalls.on(x);
    x.add(0, 3);
    x.add(0, 7);
    x.add(1, 6);
    x.add(1, 96);
    x.groups(0);
    return x;
  }

  private static void dueLast(String what, Call call, long want) {
    for (int i = 0; i < FILLERS.length; i++) {
      due(what + " as the 512th call, filler " + i, call.on(beforeItsLastCall(FILLERS[i])), want);
    }
  }

  private static void the512thCall() {
    dueLast("add(0, 24)", x -> num(x.add(0, 24)), 1);
    dueLast("add(0, 24 | 1)", x -> num(x.add(0, 24 | 1)), 0);
    dueLast("remove(1, 96)", x -> num(x.remove(1, 96)), 1);
    dueLast("remove(1, 3)", x -> num(x.remove(1, 3)), 0);
    dueLast("clear(0)", x -> num(x.clear(0)), 1);
    dueLast("groups(0)", x -> x.groups(0), 10);
    dueLast("join(0, 5)", x -> x.join(0, 5), 7);
    dueLast("says(1, 0, 1, 2)", x -> x.says(1, 0, 1, 2), 0);
    dueLast("decided(0)", x -> x.decided(0), 13);
    dueLast("groupDistance()", x -> x.groupDistance(), 4);
    dueLast("tripleDistance()", x -> x.tripleDistance(), 14);
    dueLast("agreement()", x -> x.agreement(), 5);
    dueLast("agreeingSet()", x -> x.agreeingSet(), 62);
    dueLast("agree(62)", x -> num(x.agree(62)), 1);
    dueLast("agree(63)", x -> num(x.agree(63)), 0);
    dueLast("together()", x -> num(x.together()), 0);
    dueLast("common()", x -> x.common(), 8);
    dueLast("depth(0, 0)", x -> x.depth(0, 0), 4);
    dueLast("room(1)", x -> x.room(1), 25);
  }

  // Terms.

  private static void firstAndLastMemberAndTree() {
    for (int t : TREES) {
      TreeCompare x = madeOne(t, of(65));
      dueGroups("with members 0 and 6 as a group", x, t, 65);
      dueGroups("with a group in the other tree", x, 1 - t);
      due("depth of member 0 in tree " + t, x.depth(t, 0), 3);
      due("depth of member 6 in tree " + t, x.depth(t, 6), 3);
      due("says of members 0, 6, 5 in tree " + t, x.says(t, 0, 6, 5), 2);
    }
  }

  private static void singlesAndAllAreGroups() {
    for (int[][] state : STATES) {
      TreeCompare x = made(state[0], state[1]);
      for (int t : TREES) {
        for (int m = 0; m < 7; m++) due("join of member " + m + " alone", x.join(t, 1 << m), 1 << m);
        due("join of all members", x.join(t, 127), 127);
        due("groups(" + t + ") beside " + state[t].length + " more", x.groups(t), 8 + state[t].length);
        for (int m = 0; m < 7; m++) {
          int member = m;
          long more = Arrays.stream(state[t]).filter(g -> (g >> member & 1) == 1).count();
          due("depth(" + t + ", " + m + ") beside " + more + " more", x.depth(t, m), 2 + more);
        }
      }
    }
  }

  private static void everyTwoGroups() {
    for (int t : TREES) {
      for (int g = 1; g < 128; g++) {
        for (int h = 1; h < 128; h++) {
          TreeCompare x = madeOne(t, of(g));
          due("add(" + t + ", " + h + ") beside " + g, x.add(t, h), nestedOrApart(g, h));
        }
      }
    }
  }

  private static void atMostFiveMore() {
    for (int t : TREES) {
      // 127 is a prime, so each stride meets every set once, in an order of its own.
      for (int stride = 1; stride < 127; stride++) {
        TreeCompare x = new TreeCompare();
        for (int i = 0; i < 127; i++) x.add(t, (i + 1) * stride % 127 + 1);
        due("groups(" + t + ") after every add there is", x.groups(t), MOST_GROUPS);
        due("room(" + t + ") after every add there is", x.room(t), 0);
      }
    }
  }

  private static void someGroupHasTwoAndNotTheThird() {
    for (int t : TREES) {
      TreeCompare least = madeOne(t, of(3));
      due("two in a group of two", least.says(t, 0, 1, 6), 2);
      due("two of which one is in the group", least.says(t, 0, 5, 6), 3);
      due("two of which none is in the group", least.says(t, 4, 5, 6), 3);
      TreeCompare most = madeOne(t, of(63));
      due("two in a group of all but the third", most.says(t, 0, 5, 6), 2);
      due("three in a group", most.says(t, 0, 4, 5), 3);
      TreeCompare inner = madeOne(t, of(3, 63));
      due("three in a group, two in a group within", inner.says(t, 0, 1, 5), 2);
      due("two in the group around alone", inner.says(t, 0, 5, 6), 2);
    }
  }

  private static int saidOf(int[] groups, int a, int b, int c) {
    for (int g : groups) {
      int inside = (g >> a & 1) + (g >> b & 1) + (g >> c & 1);
      if (inside == 2) return (g >> a & 1) == 0 ? 0 : (g >> b & 1) == 0 ? 1 : 2;
    }
    return 3;
  }

  private static void oneOfThreeWaysOrLevel() {
    for (int[][] state : STATES) {
      for (int t : TREES) {
        TreeCompare x = made(state[0], state[1]);
        for (int a = 0; a < 7; a++) {
          for (int b = 0; b < 7; b++) {
            for (int c = 0; c < 7; c++) {
              int want = a == b || a == c || b == c ? BAD : saidOf(state[t], a, b, c);
              due("says(" + t + ", " + a + ", " + b + ", " + c + ")", x.says(t, a, b, c), want);
            }
          }
        }
      }
    }
  }

  private static void agreeForEveryThree() {
    // The trees differ on the members 0, 1, 2 and on no others.
    TreeCompare x = made(of(3, 7), of(7));
    for (int set = 0; set < 128; set++) {
      due("agree(" + set + ") with one dispute", x.agree(set), (set & 7) != 7);
    }
    TreeCompare last = made(of(96, 112), of(112));
    for (int set = 0; set < 128; set++) {
      due("agree(" + set + ") with one dispute of the last members", last.agree(set), (set & 112) != 112);
    }
  }

  private static void agreeOnAtMostTwo() {
    TreeCompare x = made(RISING, FALLING);
    for (int set = 0; set < 128; set++) {
      due("agree(" + set + ") of trees that differ on every three", x.agree(set), Integer.bitCount(set) <= 2);
    }
  }

  // Promise 1.

  private static void newTreesAreEmpty() {
    for (int t : TREES) {
      TreeCompare x = new TreeCompare();
      dueGroups("new", x, t);
      due("room(" + t + ") when new", x.room(t), 119);
    }
    made(RISING, FALLING);
    dueAlike("made after another object was filled, which", new TreeCompare(), made(of(), of()));
    TreeCompare early = new TreeCompare();
    made(RISING, FALLING);
    for (int t : TREES) due("groups(" + t + ") after another object was filled", early.groups(t), 8);
  }

  // Promise 2.

  private static void addWhatIsThere() {
    for (int t : TREES) {
      for (int[][] state : STATES) {
        for (int g = 1; g < 128; g++) {
          int group = g;
          if (!inEveryTree(g) && Arrays.stream(state[t]).noneMatch(there -> there == group)) continue;
          TreeCompare x = made(state[0], state[1]);
          due("add(" + t + ", " + g + ") again", x.add(t, g), true);
          dueAlike("add(" + t + ", " + g + ") again changes nothing, which", x, made(state[0], state[1]));
        }
      }
    }
  }

  private static void addToNoTree() {
    for (int t : NOT_A_TREE) {
      dueUnchanged("add(" + t + ", 3)", x -> num(x.add(t, 3)), 0);
      dueUnchanged("add(" + t + ", 12)", x -> num(x.add(t, 12)), 0);
      dueUnchanged("add(" + t + ", 127)", x -> num(x.add(t, 127)), 0);
      dueUnchanged("add(" + t + ", 0)", x -> num(x.add(t, 0)), 0);
      dueUnchanged("add(" + t + ", 128)", x -> num(x.add(t, 128)), 0);
    }
  }

  private static void addNoSet() {
    for (int t : TREES) {
      dueUnchanged("add(" + t + ", 0)", x -> num(x.add(t, 0)), 0);
      for (int g : NOT_A_SET) dueUnchanged("add(" + t + ", " + g + ")", x -> num(x.add(t, g)), 0);
      dueUnchanged("add(" + t + ", 1), the least there is", x -> num(x.add(t, 1)), 1);
      dueUnchanged("add(" + t + ", 127), the greatest there is", x -> num(x.add(t, 127)), 1);
      TreeCompare x = new TreeCompare();
      due("add(" + t + ", 3), the least that is new", x.add(t, 3), true);
      dueGroups("after that add", x, t, 3);
      TreeCompare y = new TreeCompare();
      due("add(" + t + ", 126), the greatest that is new", y.add(t, 126), true);
      dueGroups("after that add", y, t, 126);
    }
  }

  private static void addWhatCrosses() {
    for (int t : TREES) {
      for (int g = 1; g < 128; g++) {
        if (nestedOrApart(g, 28)) continue;
        TreeCompare x = madeOne(t, of(28));
        due("add(" + t + ", " + g + ") beside 28", x.add(t, g), false);
        dueAlike("add(" + t + ", " + g + ") beside 28 changes nothing, which", x, madeOne(t, of(28)));
      }
      TreeCompare lastCrosses = madeOne(t, of(3, 7, 96));
      due("add that the last group alone crosses", lastCrosses.add(t, 48), false);
      dueGroups("after it", lastCrosses, t, 3, 7, 96);
      TreeCompare firstCrosses = madeOne(t, of(3, 96));
      due("add that the first group alone crosses", firstCrosses.add(t, 6), false);
      dueGroups("after it", firstCrosses, t, 3, 96);
    }
  }

  private static void addWhatCrossesTheOtherTreeOnly() {
    for (int t : TREES) {
      TreeCompare x = madeOne(1 - t, of(3, 96));
      due("add(" + t + ", 6)", x.add(t, 6), true);
      due("add(" + t + ", 48)", x.add(t, 48), true);
      dueGroups("after adds", x, t, 6, 48);
      dueGroups("after adds to the other tree", x, 1 - t, 3, 96);
    }
  }

  private static void addToAFullTree() {
    for (int t : TREES) {
      for (int g = 1; g < 128; g++) {
        int group = g;
        boolean there = inEveryTree(g) || Arrays.stream(RISING).anyMatch(h -> h == group);
        TreeCompare x = madeOne(t, RISING);
        due("add(" + t + ", " + g + ") to a full tree", x.add(t, g), there);
        due("groups(" + t + ") after it", x.groups(t), MOST_GROUPS);
      }
    }
  }

  // Promise 3.

  private static void removeEachGroup() {
    for (int t : TREES) {
      for (int i = 0; i < RISING.length; i++) {
        TreeCompare x = made(RISING, RISING);
        int[] left = new int[RISING.length - 1];
        for (int j = 0; j < left.length; j++) left[j] = RISING[j < i ? j : j + 1];
        due("remove(" + t + ", " + RISING[i] + ") from a full tree", x.remove(t, RISING[i]), true);
        dueGroups("after it", x, t, left);
        dueGroups("after it in the other tree", x, 1 - t, RISING);
      }
      for (int g = 1; g < 127; g++) {
        if (inEveryTree(g)) continue;
        TreeCompare x = madeOne(t, of(g));
        due("remove(" + t + ", " + g + "), the only one", x.remove(t, g), true);
        dueAlike("after remove of the only one, empty, which", x, new TreeCompare());
      }
    }
  }

  private static void removeFromNoTree() {
    for (int t : NOT_A_TREE) {
      dueUnchanged("remove(" + t + ", 3)", x -> num(x.remove(t, 3)), 0);
      dueUnchanged("remove(" + t + ", 15)", x -> num(x.remove(t, 15)), 0);
      dueUnchanged("remove(" + t + ", 127)", x -> num(x.remove(t, 127)), 0);
      dueUnchanged("remove(" + t + ", 0)", x -> num(x.remove(t, 0)), 0);
      dueUnchanged("remove(" + t + ", 128)", x -> num(x.remove(t, 128)), 0);
    }
  }

  private static void removeWhatIsNotThere() {
    for (int t : TREES) {
      dueUnchanged("remove(" + t + ", 0)", x -> num(x.remove(t, 0)), 0);
      for (int g : NOT_A_SET) dueUnchanged("remove(" + t + ", " + g + ")", x -> num(x.remove(t, g)), 0);
      dueUnchanged("remove(" + t + ", 6)", x -> num(x.remove(t, 6)), 0);
      dueUnchanged("remove(" + t + ", 126)", x -> num(x.remove(t, 126)), 0);
      TreeCompare x = madeOne(1 - t, RISING);
      for (int g : RISING) due("remove(" + t + ", " + g + "), the other tree's", x.remove(t, g), false);
      dueGroups("after it", x, 1 - t, RISING);
      TreeCompare y = madeOne(t, of(3, 12));
      due("remove(" + t + ", 12)", y.remove(t, 12), true);
      due("remove(" + t + ", 12) a second time", y.remove(t, 12), false);
      dueGroups("after it", y, t, 3);
    }
  }

  private static void removeWhatEveryTreeHas() {
    for (int t : TREES) {
      for (int m = 0; m < 7; m++) {
        int single = 1 << m;
        dueUnchanged("remove(" + t + ", " + single + ")", x -> num(x.remove(t, single)), 0);
      }
      dueUnchanged("remove(" + t + ", 127)", x -> num(x.remove(t, 127)), 0);
      TreeCompare x = new TreeCompare();
      for (int g : of(1, 64, 127)) {
        x.add(t, g);
        due("remove(" + t + ", " + g + ") after an add of it", x.remove(t, g), false);
      }
      dueGroups("after it", x, t);
    }
  }

  // Promise 4.

  private static void clearEmptyAndFull() {
    for (int t : TREES) {
      for (int[][] state : STATES) {
        TreeCompare x = made(state[0], state[1]);
        due("clear(" + t + ")", x.clear(t), true);
        dueAlike("clear(" + t + ") of " + Arrays.deepToString(state) + ", which", x, madeOne(1 - t, state[1 - t]));
        due("clear(" + t + ") a second time", x.clear(t), true);
        dueAlike("a second clear, which", x, madeOne(1 - t, state[1 - t]));
      }
    }
  }

  private static void clearNoTree() {
    for (int t : NOT_A_TREE) dueUnchanged("clear(" + t + ")", x -> num(x.clear(t)), 0);
  }

  // Promise 5.

  private static void groupsFromEmptyToFull() {
    for (int t : TREES) {
      TreeCompare x = new TreeCompare();
      due("groups(" + t + ") of an empty tree", x.groups(t), 8);
      for (int i = 0; i < RISING.length; i++) {
        x.add(t, RISING[i]);
        due("groups(" + t + ") after " + (i + 1) + " adds", x.groups(t), 9 + i);
      }
      due("groups of the other tree", x.groups(1 - t), 8);
    }
  }

  private static void groupsOfNoTree() {
    for (int t : NOT_A_TREE) dueUnchanged("groups(" + t + ")", x -> x.groups(t), BAD);
  }

  // Promise 6.

  private static void joinIsTheLeast() {
    for (int t : TREES) {
      dueGroups("groups within groups", madeOne(t, RISING), t, RISING);
      dueGroups("groups within groups, from the last member", madeOne(t, FALLING), t, FALLING);
      dueGroups("groups apart", madeOne(t, of(3, 12, 48)), t, 3, 12, 48);
      dueGroups("no groups", new TreeCompare(), t);
    }
  }

  private static void joinOfTheEmptySet() {
    for (int t : TREES) dueUnchanged("join(" + t + ", 0)", x -> x.join(t, 0), 0);
  }

  private static void joinInNoTree() {
    for (int t : NOT_A_TREE) {
      for (int set : of(0, 1, 3, 127, 128, -1)) {
        dueUnchanged("join(" + t + ", " + set + ")", x -> x.join(t, set), BAD);
      }
    }
  }

  private static void joinOfNoSet() {
    for (int t : TREES) {
      for (int set : NOT_A_SET) dueUnchanged("join(" + t + ", " + set + ")", x -> x.join(t, set), BAD);
      dueUnchanged("join(" + t + ", 1), next to the least", x -> x.join(t, 1), 1);
      dueUnchanged("join(" + t + ", 127), the greatest", x -> x.join(t, 127), 127);
    }
  }

  // Promise 7.

  private static void saysEachAnswer() {
    for (int t : TREES) {
      for (int m = 0; m < 7; m++) {
        int first = m == 0 ? 1 : 0;
        int last = m == 6 ? 5 : 6;
        TreeCompare x = madeOne(t, of(127 - (1 << m)));
        due("says, " + m + " apart and first", x.says(t, m, first, last), 0);
        due("says, " + m + " apart and second", x.says(t, first, m, last), 1);
        due("says, " + m + " apart and third", x.says(t, first, last, m), 2);
        due("says in the other tree", x.says(1 - t, first, last, m), 3);
      }
    }
  }

  private static void saysOfNoTree() {
    for (int t : NOT_A_TREE) {
      dueUnchanged("says(" + t + ", 0, 1, 2)", x -> x.says(t, 0, 1, 2), BAD);
      dueUnchanged("says(" + t + ", 4, 5, 6)", x -> x.says(t, 4, 5, 6), BAD);
      dueUnchanged("says(" + t + ", 0, 0, 7)", x -> x.says(t, 0, 0, 7), BAD);
    }
  }

  private static void saysOfNoMember() {
    for (int t : TREES) {
      for (int m : NOT_A_MEMBER) {
        dueUnchanged("says(" + t + ", " + m + ", 1, 2)", x -> x.says(t, m, 1, 2), BAD);
        dueUnchanged("says(" + t + ", 1, " + m + ", 2)", x -> x.says(t, 1, m, 2), BAD);
        dueUnchanged("says(" + t + ", 1, 2, " + m + ")", x -> x.says(t, 1, 2, m), BAD);
        dueUnchanged("says(" + t + ", " + m + ", " + m + ", " + m + ")", x -> x.says(t, m, m, m), BAD);
      }
    }
  }

  private static void saysOfMembersThatAreNotDifferent() {
    for (int t : TREES) {
      for (int m = 0; m < 7; m++) {
        int same = m;
        int other = (m + 1) % 7;
        dueUnchanged("says of first and second the same, " + m, x -> x.says(t, same, same, other), BAD);
        dueUnchanged("says of first and third the same, " + m, x -> x.says(t, same, other, same), BAD);
        dueUnchanged("says of second and third the same, " + m, x -> x.says(t, other, same, same), BAD);
        dueUnchanged("says of all three the same, " + m, x -> x.says(t, same, same, same), BAD);
      }
    }
  }

  // Promise 8.

  private static void decidedFromNoneToAll() {
    int[] want = {5, 13, 22, 30, 35};
    for (int t : TREES) {
      TreeCompare x = new TreeCompare();
      due("decided(" + t + ") of an empty tree", x.decided(t), 0);
      for (int i = 0; i < RISING.length; i++) {
        x.add(t, RISING[i]);
        due("decided(" + t + ") after " + (i + 1) + " adds", x.decided(t), want[i]);
      }
      due("decided of the other tree", x.decided(1 - t), 0);
    }
  }

  private static void decidedOfNoTree() {
    for (int t : NOT_A_TREE) dueUnchanged("decided(" + t + ")", x -> x.decided(t), BAD);
  }

  // Promises 9 and 10.

  private static void groupDistanceFromNoneToMost() {
    due("groupDistance() of empty trees", new TreeCompare().groupDistance(), 0);
    due("groupDistance() of full trees that are the same", made(RISING, RISING).groupDistance(), 0);
    due("groupDistance() of full and empty", made(RISING, of()).groupDistance(), 5);
    due("groupDistance() of empty and full", made(of(), RISING).groupDistance(), 5);
    due("groupDistance() of full trees with no group alike", made(RISING, FALLING).groupDistance(), 10);
    due("groupDistance() by the least group", made(of(3), of()).groupDistance(), 1);
    due("groupDistance() by the greatest group", made(of(), of(126)).groupDistance(), 1);
  }

  private static void tripleDistanceFromNoneToMost() {
    due("tripleDistance() of empty trees", new TreeCompare().tripleDistance(), 0);
    due("tripleDistance() of full trees that are the same", made(RISING, RISING).tripleDistance(), 0);
    due("tripleDistance() of full and empty", made(RISING, of()).tripleDistance(), 35);
    due("tripleDistance() of empty and full", made(of(), FALLING).tripleDistance(), 35);
    due("tripleDistance() of trees that differ on every three", made(RISING, FALLING).tripleDistance(), 35);
    due("tripleDistance() by the first three", made(of(3, 7), of(7)).tripleDistance(), 1);
    due("tripleDistance() by the last three", made(of(112), of(96, 112)).tripleDistance(), 1);
  }

  // Promises 11 and 12.

  private static final int[][][] BY_AGREEMENT = {
    {RISING, FALLING, {2, 3}},
    {{3, 12, 48, 15, 63}, {5, 10, 80, 15, 95}, {3, 19}},
    {{3, 7, 24, 56, 63}, {6, 7, 48, 56, 120}, {4, 27}},
    {{3}, {96}, {5, 61}},
    {{3}, {}, {6, 125}},
    {RISING, RISING, {7, 127}},
    {{}, {}, {7, 127}}
  };

  private static void agreementFromTwoToSeven() {
    for (int[][] row : BY_AGREEMENT) {
      due("agreement() of " + Arrays.deepToString(row), made(row[0], row[1]).agreement(), row[2][0]);
      due("agreement() of them, changed about", made(row[1], row[0]).agreement(), row[2][0]);
    }
  }

  private static void agreeingSetIsTheLeast() {
    for (int[][] row : BY_AGREEMENT) {
      due("agreeingSet() of " + Arrays.deepToString(row), made(row[0], row[1]).agreeingSet(), row[2][1]);
      due("agreeingSet() of them, changed about", made(row[1], row[0]).agreeingSet(), row[2][1]);
    }
    // Two sets of six are agreed on, the one without the higher member of the pair being the lesser number.
    due("agreeingSet() with the first pair", made(of(3), of()).agreeingSet(), 125);
    due("agreeingSet() with the last pair", made(of(96), of()).agreeingSet(), 63);
  }

  private static void agreeingSetHasThatManyMembers() {
    // Lesser numbers are agreed on too, with fewer members.
    TreeCompare x = made(of(126), of());
    due("agreeingSet() without member 0", x.agreeingSet(), 126);
    due("agree(62), lesser and smaller", x.agree(62), true);
    TreeCompare y = made(of(3, 7), of(7));
    due("agreeingSet() with one dispute", y.agreeingSet(), 123);
    due("agree(120), lesser and smaller", y.agree(120), true);
  }

  // Promise 13.

  private static void agreeAtTheEnds() {
    for (int[][] state : STATES) {
      due("agree(0)", made(state[0], state[1]).agree(0), true);
      due("agree(127) of trees that are the same", made(state[0], state[0]).agree(127), true);
    }
    due("agree(127) of trees that differ", made(of(3), of()).agree(127), false);
    due("agree(127) of trees with one dispute", made(of(3, 7), of(7)).agree(127), false);
  }

  private static void agreeOnNoSet() {
    for (int set : NOT_A_SET) {
      dueUnchanged("agree(" + set + ")", x -> num(x.agree(set)), 0);
      due("agree(" + set + ") of full trees that are the same", made(RISING, RISING).agree(set), false);
    }
  }

  // Promise 14.

  private static void togetherForEveryTwoGroups() {
    for (int g = 1; g < 128; g++) {
      for (int h = 1; h < 128; h++) {
        due("together() of " + g + " and " + h, made(of(g), of(h)).together(), nestedOrApart(g, h));
      }
    }
  }

  private static void togetherOfEmptyAndFull() {
    due("together() of empty trees", new TreeCompare().together(), true);
    due("together() of full and empty", made(RISING, of()).together(), true);
    due("together() of empty and full", made(of(), RISING).together(), true);
    due("together() of full trees that are the same", made(RISING, RISING).together(), true);
    due("together() of halves of a full tree", made(of(3, 15, 63), of(7, 31)).together(), true);
    due("together() of full trees that differ in one group", made(RISING, of(5, 7, 15, 31, 63)).together(), false);
    due("together() of full trees with no group alike", made(RISING, FALLING).together(), false);
  }

  // Promise 15.

  private static void commonFromEmptyToFull() {
    due("common() of empty trees", new TreeCompare().common(), 8);
    due("common() of full and empty", made(RISING, of()).common(), 8);
    due("common() of empty and full", made(of(), RISING).common(), 8);
    due("common() of full trees with no group alike", made(RISING, FALLING).common(), 8);
    due("common() of full trees that are the same", made(RISING, RISING).common(), MOST_GROUPS);
    due("common() by the least group", made(of(3), of(3)).common(), 9);
    due("common() by the greatest group", made(of(126), of(126)).common(), 9);
  }

  // Promise 16.

  private static void depthFromEmptyToFull() {
    int[] want = {7, 7, 6, 5, 4, 3, 2};
    for (int t : TREES) {
      TreeCompare x = madeOne(t, RISING);
      for (int m = 0; m < 7; m++) {
        due("depth(" + t + ", " + m + ") of a full tree", x.depth(t, m), want[m]);
        due("depth(" + (1 - t) + ", " + m + ") of an empty tree", x.depth(1 - t, m), 2);
      }
    }
  }

  private static void depthInNoTree() {
    for (int t : NOT_A_TREE) {
      for (int m : of(0, 6, 7, -1)) dueUnchanged("depth(" + t + ", " + m + ")", x -> x.depth(t, m), BAD);
    }
  }

  private static void depthOfNoMember() {
    for (int t : TREES) {
      for (int m : NOT_A_MEMBER) dueUnchanged("depth(" + t + ", " + m + ")", x -> x.depth(t, m), BAD);
    }
  }

  // Promise 17.

  private static void roomFromEmptyToFull() {
    // The sets made of the greatest group as one and the members outside it, and, for each group, the two parts it
    // falls into (in the least, its members); without those that are there: 63 + 2 - 9, 31 + 4 - 10 and so on.
    int[] want = {56, 25, 10, 3, 0};
    for (int t : TREES) {
      TreeCompare x = new TreeCompare();
      due("room(" + t + ") of an empty tree", x.room(t), 119);
      for (int i = 0; i < RISING.length; i++) {
        x.add(t, RISING[i]);
        due("room(" + t + ") after " + (i + 1) + " adds", x.room(t), want[i]);
      }
      due("room of the other tree", x.room(1 - t), 119);
    }
  }

  private static void roomOneAtATime() {
    for (int t : TREES) {
      for (int g = 1; g < 128; g++) {
        int count = 0;
        for (int h = 1; h < 128; h++) {
          TreeCompare x = madeOne(t, of(g));
          if (x.add(t, h) && h != g && !inEveryTree(h)) count++;
        }
        due("room(" + t + ") beside " + g, madeOne(t, of(g)).room(t), count);
      }
    }
  }

  private static void roomOfNoTree() {
    for (int t : NOT_A_TREE) dueUnchanged("room(" + t + ")", x -> x.room(t), BAD);
  }

  // Not promised.

  private static final Call[] QUESTIONS = {
    x -> x.groups(0), x -> x.groups(1), x -> x.join(0, 5), x -> x.join(1, 5), x -> x.says(0, 0, 1, 2),
    x -> x.says(1, 0, 1, 2), x -> x.decided(0), x -> x.decided(1), x -> x.groupDistance(), x -> x.tripleDistance(),
    x -> x.agreement(), x -> x.agreeingSet(), x -> num(x.agree(127)), x -> num(x.together()), x -> x.common(),
    x -> x.depth(0, 0), x -> x.depth(1, 0), x -> x.room(0), x -> x.room(1)
  };

  private static void questionsChangeNothing() {
    for (int[][] state : STATES) {
      for (int i = 0; i < QUESTIONS.length; i++) {
        TreeCompare x = made(state[0], state[1]);
        long first = QUESTIONS[i].on(x);
        for (int t : TREES) dueGroups("after question " + i, x, t, state[t]);
        due("question " + i + " asked again", QUESTIONS[i].on(x), first);
      }
    }
  }

  private static void whatItIsAndTerms() {
    sentence("What it is", "at most 512 calls", BoundaryTest::the512thCall);
    sentence("Terms", "members 0 .. 6 and two trees, 0 and 1", BoundaryTest::firstAndLastMemberAndTree);
    sentence("Terms", "each single member and all members together are groups", BoundaryTest::singlesAndAllAreGroups);
    sentence("Terms", "of every two groups one holds the other one or they share no member",
        BoundaryTest::everyTwoGroups);
    sentence("Terms", "at most five more groups", BoundaryTest::atMostFiveMore);
    sentence("Terms", "when some group has a and b and not c", BoundaryTest::someGroupHasTwoAndNotTheThird);
    sentence("Terms", "at most one of the three ways; if none is, level", BoundaryTest::oneOfThreeWaysOrLevel);
    sentence("Terms", "agree when for every three of them both say the same", BoundaryTest::agreeForEveryThree);
    sentence("Terms", "they agree on every set of at most two members", BoundaryTest::agreeOnAtMostTwo);
  }

  private static void changes() {
    sentence("Promise 1", "no groups but those that every tree has", BoundaryTest::newTreesAreEmpty);
    sentence("Promise 2", "true (also when it is there already)", BoundaryTest::addWhatIsThere);
    sentence("Promise 2", "false, changing nothing, when t is not 0 or 1", BoundaryTest::addToNoTree);
    sentence("Promise 2", "group is not 1 .. 127", BoundaryTest::addNoSet);
    sentence("Promise 2", "some group shares members with it and neither holds the other",
        BoundaryTest::addWhatCrosses);
    sentence("Promise 2", "some group of the tree (not of the other one)",
        BoundaryTest::addWhatCrossesTheOtherTreeOnly);
    sentence("Promise 2", "a full tree", BoundaryTest::addToAFullTree);
    sentence("Promise 3", "takes a group out and answers true", BoundaryTest::removeEachGroup);
    sentence("Promise 3", "false, changing nothing, when t is not 0 or 1", BoundaryTest::removeFromNoTree);
    sentence("Promise 3", "the tree does not have it", BoundaryTest::removeWhatIsNotThere);
    sentence("Promise 3", "every tree has it", BoundaryTest::removeWhatEveryTreeHas);
    sentence("Promise 4", "only the groups that every tree has, and true", BoundaryTest::clearEmptyAndFull);
    sentence("Promise 4", "false when t is not 0 or 1", BoundaryTest::clearNoTree);
  }

  private static void questionsOfOneTree() {
    sentence("Promise 5", "all counted", BoundaryTest::groupsFromEmptyToFull);
    sentence("Promise 5", "BAD when t is not 0 or 1", BoundaryTest::groupsOfNoTree);
    sentence("Promise 6", "the least group that holds all members of the set", BoundaryTest::joinIsTheLeast);
    sentence("Promise 6", "for the empty set 0", BoundaryTest::joinOfTheEmptySet);
    sentence("Promise 6", "BAD when t is not 0 or 1", BoundaryTest::joinInNoTree);
    sentence("Promise 6", "BAD when the set is not 0 .. 127", BoundaryTest::joinOfNoSet);
    sentence("Promise 7", "0, 1, 2, 3", BoundaryTest::saysEachAnswer);
    sentence("Promise 7", "BAD when t is not 0 or 1", BoundaryTest::saysOfNoTree);
    sentence("Promise 7", "BAD when they are not members", BoundaryTest::saysOfNoMember);
    sentence("Promise 7", "BAD when they are not different", BoundaryTest::saysOfMembersThatAreNotDifferent);
    sentence("Promise 8", "the number of sets that are not level", BoundaryTest::decidedFromNoneToAll);
    sentence("Promise 8", "BAD when t is not 0 or 1", BoundaryTest::decidedOfNoTree);
    sentence("Promise 16", "all counted", BoundaryTest::depthFromEmptyToFull);
    sentence("Promise 16", "BAD when t is not 0 or 1", BoundaryTest::depthInNoTree);
    sentence("Promise 16", "BAD when m is not 0 .. 6", BoundaryTest::depthOfNoMember);
    sentence("Promise 17", "how many groups could be added", BoundaryTest::roomFromEmptyToFull);
    sentence("Promise 17", "one at a time (that are not there)", BoundaryTest::roomOneAtATime);
    sentence("Promise 17", "BAD when t is not 0 or 1", BoundaryTest::roomOfNoTree);
  }

  private static void questionsOfBothTrees() {
    sentence("Promise 9", "groups that one has and the other has not", BoundaryTest::groupDistanceFromNoneToMost);
    sentence("Promise 10", "sets about which they say different things", BoundaryTest::tripleDistanceFromNoneToMost);
    sentence("Promise 11", "the number of members of a largest set", BoundaryTest::agreementFromTwoToSeven);
    sentence("Promise 12", "the least set (as a number)", BoundaryTest::agreeingSetIsTheLeast);
    sentence("Promise 12", "with that many members", BoundaryTest::agreeingSetHasThatManyMembers);
    sentence("Promise 13", "whether the trees agree on a set", BoundaryTest::agreeAtTheEnds);
    sentence("Promise 13", "false when it is not 0 .. 127", BoundaryTest::agreeOnNoSet);
    sentence("Promise 14", "a tree that has all groups of both", BoundaryTest::togetherForEveryTwoGroups);
    sentence("Promise 14", "of empty and full trees", BoundaryTest::togetherOfEmptyAndFull);
    sentence("Promise 15", "the number of groups that both trees have", BoundaryTest::commonFromEmptyToFull);
    sentence("Not promised", "no state changes but those described", BoundaryTest::questionsChangeNothing);
  }

  public static void main(String[] args) {
    whatItIsAndTerms();
    changes();
    questionsOfOneTree();
    questionsOfBothTrees();
    System.out.println(wrong == 0 ? "all boundaries hold" : wrong + " answers are not as due");
    if (wrong != 0) System.exit(1);
  }
}
