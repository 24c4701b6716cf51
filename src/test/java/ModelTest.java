import java.util.ArrayList;
import java.util.HashSet;
import java.util.List;
import java.util.Set;
import java.util.TreeSet;

/**
 * Compares the class with a slow model that follows the document's words over sets of members: first on every
 * tree there is, then on long runs of mixed calls. The runs come from a fixed sequence, so each test is the same.
 */
public final class ModelTest {
  private static final int CALLS_PROMISED = 512;
  private static final int RUNS = 400;
  private static final int TREES_OF_SEVEN = 39208;

  private static int wrong = 0;

  private static void due(String where, String call, long got, long want) {
    if (got != want) {
      wrong++;
      if (wrong <= 20) System.out.println(where + ": " + call + " answered " + got + ", due is " + want);
    }
  }

  // The model.

  private static final class Model {
    final List<Set<Set<Integer>>> trees = List.of(new HashSet<>(), new HashSet<>());

    Model() {
      clear(0);
      clear(1);
    }

    static Set<Integer> members(int set) {
      Set<Integer> s = new TreeSet<>();
      for (int m = 0; m < 7; m++) if ((set & 1 << m) != 0) s.add(m);
      return s;
    }

    static int number(Set<Integer> s) {
      int set = 0;
      for (int m : s) set |= 1 << m;
      return set;
    }

    static Set<Set<Integer>> groupsOfEveryTree() {
      Set<Set<Integer>> given = new HashSet<>();
      for (int m = 0; m < 7; m++) given.add(Set.of(m));
      given.add(Set.of(0, 1, 2, 3, 4, 5, 6));
      return given;
    }

    static boolean nestedOrApart(Set<Integer> a, Set<Integer> b) {
      if (a.containsAll(b) || b.containsAll(a)) return true;
      for (int m : a) if (b.contains(m)) return false;
      return true;
    }

    static boolean isTree(int t) {
      return t == 0 || t == 1;
    }

    static boolean inRange(int x, int low, int high) {
      return low <= x && x <= high;
    }

    boolean goesInto(int t, Set<Integer> group) {
      for (Set<Integer> other : trees.get(t)) if (!nestedOrApart(group, other)) return false;
      return true;
    }

    int add(int t, int group) {
      if (!isTree(t) || !inRange(group, 1, 127) || !goesInto(t, members(group))) return 0;
      trees.get(t).add(members(group));
      return 1;
    }

    int remove(int t, int group) {
      if (!isTree(t) || !inRange(group, 1, 127) || groupsOfEveryTree().contains(members(group))) return 0;
      return trees.get(t).remove(members(group)) ? 1 : 0;
    }

    int clear(int t) {
      if (!isTree(t)) return 0;
      trees.get(t).clear();
      trees.get(t).addAll(groupsOfEveryTree());
      return 1;
    }

    int groups(int t) {
      return isTree(t) ? trees.get(t).size() : -1;
    }

    int join(int t, int set) {
      if (!isTree(t) || !inRange(set, 0, 127)) return -1;
      if (set == 0) return 0;
      Set<Integer> least = null;
      for (Set<Integer> g : trees.get(t)) {
        if (g.containsAll(members(set)) && (least == null || g.size() < least.size())) least = g;
      }
      return number(least);
    }

    boolean closer(int t, int a, int b, int c) {
      for (Set<Integer> g : trees.get(t)) if (g.contains(a) && g.contains(b) && !g.contains(c)) return true;
      return false;
    }

    int says(int t, int a, int b, int c) {
      if (!isTree(t) || !inRange(a, 0, 6) || !inRange(b, 0, 6) || !inRange(c, 0, 6)) return -1;
      if (a == b || a == c || b == c) return -1;
      return closer(t, b, c, a) ? 0 : closer(t, a, c, b) ? 1 : closer(t, a, b, c) ? 2 : 3;
    }

    int decided(int t) {
      if (!isTree(t)) return -1;
      int count = 0;
      for (int a = 0; a < 7; a++)
        for (int b = a + 1; b < 7; b++) for (int c = b + 1; c < 7; c++) if (says(t, a, b, c) != 3) count++;
      return count;
    }

    int groupDistance() {
      Set<Set<Integer>> either = new HashSet<>(trees.get(0));
      either.addAll(trees.get(1));
      return either.size() - common();
    }

    int tripleDistance() {
      int count = 0;
      for (int a = 0; a < 7; a++)
        for (int b = a + 1; b < 7; b++)
          for (int c = b + 1; c < 7; c++) if (says(0, a, b, c) != says(1, a, b, c)) count++;
      return count;
    }

    int agree(int set) {
      if (!inRange(set, 0, 127)) return 0;
      for (int a : members(set))
        for (int b : members(set))
          for (int c : members(set)) if (says(0, a, b, c) != says(1, a, b, c)) return 0;
      return 1;
    }

    int agreement() {
      int most = 0;
      for (int set = 0; set < 128; set++) if (agree(set) == 1) most = Math.max(most, members(set).size());
      return most;
    }

    int agreeingSet() {
      int most = agreement();
      int set = 0;
      while (members(set).size() != most || agree(set) == 0) set++;
      return set;
    }

    int together() {
      Set<Set<Integer>> all = new HashSet<>(trees.get(0));
      all.addAll(trees.get(1));
      for (Set<Integer> a : all) for (Set<Integer> b : all) if (!nestedOrApart(a, b)) return 0;
      return 1;
    }

    int common() {
      Set<Set<Integer>> both = new HashSet<>(trees.get(0));
      both.retainAll(trees.get(1));
      return both.size();
    }

    int depth(int t, int m) {
      if (!isTree(t) || !inRange(m, 0, 6)) return -1;
      int count = 0;
      for (Set<Integer> g : trees.get(t)) if (g.contains(m)) count++;
      return count;
    }

    int room(int t) {
      if (!isTree(t)) return -1;
      int count = 0;
      for (int set = 1; set < 128; set++) {
        Set<Integer> g = members(set);
        if (!trees.get(t).contains(g) && goesInto(t, g)) count++;
      }
      return count;
    }
  }

  // Every tree there is, as the groups it has beside those of every tree.

  private static List<List<Integer>> everyTree() {
    List<List<Integer>> done = new ArrayList<>();
    done.add(List.of());
    // Groups are put on in rising order, so that each tree is met once.
    for (int i = 0; i < done.size(); i++) {
      List<Integer> tree = done.get(i);
      int last = tree.isEmpty() ? 0 : tree.get(tree.size() - 1);
      for (int set = last + 1; set < 127; set++) {
        if (Integer.bitCount(set) > 1 && fitsAll(tree, set)) {
          List<Integer> more = new ArrayList<>(tree);
          more.add(set);
          done.add(more);
        }
      }
    }
    return done;
  }

  private static boolean fitsAll(List<Integer> tree, int set) {
    for (int g : tree) {
      int shared = g & set;
      if (shared != 0 && shared != g && shared != set) return false;
    }
    return true;
  }

  private static void build(TreeCompare x, Model m, int t, List<Integer> tree, boolean rising) {
    for (int i = 0; i < tree.size(); i++) {
      int g = tree.get(rising ? i : tree.size() - 1 - i);
      due("tree " + tree, "add(" + t + ", " + g + ")", x.add(t, g) ? 1 : 0, 1);
      m.add(t, g);
    }
  }

  private static void compareWhole(String where, TreeCompare x, Model m) {
    for (int t = 0; t < 2; t++) {
      due(where, "groups(" + t + ")", x.groups(t), m.groups(t));
      due(where, "decided(" + t + ")", x.decided(t), m.decided(t));
      due(where, "room(" + t + ")", x.room(t), m.room(t));
    }
    due(where, "groupDistance()", x.groupDistance(), m.groupDistance());
    due(where, "tripleDistance()", x.tripleDistance(), m.tripleDistance());
    due(where, "common()", x.common(), m.common());
    due(where, "together()", x.together() ? 1 : 0, m.together());
  }

  private static void onEveryTree() {
    List<List<Integer>> trees = everyTree();
    due("every tree", "their number", trees.size(), TREES_OF_SEVEN);
    for (int i = 0; i < trees.size(); i++) {
      // A stride prime to the number of trees pairs each with one that is not alike.
      List<Integer> other = trees.get((int) ((i * 7919L + 13) % trees.size()));
      TreeCompare x = new TreeCompare();
      Model m = new Model();
      build(x, m, 0, trees.get(i), true);
      build(x, m, 1, other, false);
      String where = "trees " + trees.get(i) + " and " + other;
      compareWhole(where, x, m);
      if (i % 20 == 0) {
        due(where, "agreement()", x.agreement(), m.agreement());
        due(where, "agreeingSet()", x.agreeingSet(), m.agreeingSet());
        for (int s = 0; s < 128; s++) {
          due(where, "join(0, " + s + ")", x.join(0, s), m.join(0, s));
          due(where, "agree(" + s + ")", x.agree(s) ? 1 : 0, m.agree(s));
        }
      }
    }
  }

  // Runs of mixed calls.

  private static long state = 20261115L;

  private static int next(int bound) {
    state = state * 6364136223846793005L + 1442695040888963407L;
    return (int) ((state >>> 33) % bound);
  }

  private static int someTree() {
    return next(20) == 0 ? next(5) - 2 : next(2);
  }

  private static int someMember() {
    return next(20) == 0 ? next(11) - 2 : next(7);
  }

  private static int someSet() {
    if (next(20) == 0) return next(2) == 0 ? 128 + next(3) : -next(3);
    // Few members at a time, else hardly any group fits beside the others.
    int set = 1 << next(7) | 1 << next(7);
    return next(3) == 0 ? next(128) : next(2) == 0 ? set : set | 1 << next(7);
  }

  private static int num(boolean b) {
    return b ? 1 : 0;
  }

  private static void mixedCall(String run, TreeCompare x, Model m) {
    int t = someTree();
    int s = someSet();
    int a = someMember();
    int b = someMember();
    int c = someMember();
    switch (next(60)) {
      case 0 -> due(run, "clear(" + t + ")", num(x.clear(t)), m.clear(t));
      case 1, 2, 3, 4, 5 -> due(run, "remove(" + t + ", " + s + ")", num(x.remove(t, s)), m.remove(t, s));
      case 6, 7 -> due(run, "groups(" + t + ")", x.groups(t), m.groups(t));
      case 8, 9, 10, 11 -> due(run, "join(" + t + ", " + s + ")", x.join(t, s), m.join(t, s));
      case 12, 13, 14, 15 ->
          due(run, "says(" + t + ", " + a + ", " + b + ", " + c + ")", x.says(t, a, b, c), m.says(t, a, b, c));
      case 16, 17 -> due(run, "decided(" + t + ")", x.decided(t), m.decided(t));
      case 18, 19 -> due(run, "groupDistance()", x.groupDistance(), m.groupDistance());
      case 20, 21 -> due(run, "tripleDistance()", x.tripleDistance(), m.tripleDistance());
      case 22 -> due(run, "agreement()", x.agreement(), m.agreement());
      case 23 -> due(run, "agreeingSet()", x.agreeingSet(), m.agreeingSet());
      case 24, 25, 26 -> due(run, "agree(" + s + ")", num(x.agree(s)), m.agree(s));
      case 27, 28 -> due(run, "together()", num(x.together()), m.together());
      case 29, 30 -> due(run, "common()", x.common(), m.common());
      case 31, 32 -> due(run, "depth(" + t + ", " + a + ")", x.depth(t, a), m.depth(t, a));
      case 33, 34 -> due(run, "room(" + t + ")", x.room(t), m.room(t));
      default -> due(run, "add(" + t + ", " + s + ")", num(x.add(t, s)), m.add(t, s));
    }
  }

  private static void onMixedRuns() {
    for (int run = 0; run < RUNS; run++) {
      TreeCompare x = new TreeCompare();
      Model m = new Model();
      for (int call = 0; call < CALLS_PROMISED; call++) mixedCall("run " + run + ", call " + call, x, m);
    }
  }

  public static void main(String[] args) {
    onEveryTree();
    onMixedRuns();
    System.out.println(wrong == 0 ? "class and model answer alike" : wrong + " answers are not the model's");
    if (wrong != 0) System.exit(1);
  }
}
