import java.lang.reflect.Constructor;
import java.lang.reflect.Field;
import java.lang.reflect.Method;
import java.lang.reflect.Modifier;
import java.util.Set;
import java.util.TreeSet;

/** The public face is the document's, whole and with nothing beside it; what is not public is private. */
public final class FaceTest {
  private static int wrong = 0;

  private static final Set<String> FACE = new TreeSet<>(Set.of(
      "public static final int TreeCompare.BAD",
      "public TreeCompare()",
      "public boolean TreeCompare.add(int,int)",
      "public boolean TreeCompare.remove(int,int)",
      "public boolean TreeCompare.clear(int)",
      "public int TreeCompare.groups(int)",
      "public int TreeCompare.join(int,int)",
      "public int TreeCompare.says(int,int,int,int)",
      "public int TreeCompare.decided(int)",
      "public int TreeCompare.groupDistance()",
      "public int TreeCompare.tripleDistance()",
      "public int TreeCompare.agreement()",
      "public int TreeCompare.agreeingSet()",
      "public boolean TreeCompare.agree(int)",
      "public boolean TreeCompare.together()",
      "public int TreeCompare.common()",
      "public int TreeCompare.depth(int,int)",
      "public int TreeCompare.room(int)"));

  private static void due(String what, Object got, Object want) {
    if (!got.equals(want)) {
      wrong++;
      System.out.println(what + ": " + got + ", due is " + want);
    }
  }

  private static Set<String> visibleMembers() {
    Set<String> visible = new TreeSet<>();
    for (Field f : TreeCompare.class.getDeclaredFields()) {
      if (!Modifier.isPrivate(f.getModifiers())) visible.add(f.toString());
    }
    for (Constructor<?> c : TreeCompare.class.getDeclaredConstructors()) {
      if (!Modifier.isPrivate(c.getModifiers())) visible.add(c.toString());
    }
    for (Method m : TreeCompare.class.getDeclaredMethods()) {
      if (!Modifier.isPrivate(m.getModifiers())) visible.add(m.toString());
    }
    return visible;
  }

  private static void noPrivateMethodBearsAPublicName() {
    Set<String> open = new TreeSet<>();
    for (Method m : TreeCompare.class.getDeclaredMethods()) {
      if (Modifier.isPublic(m.getModifiers())) open.add(m.getName());
    }
    for (Method m : TreeCompare.class.getDeclaredMethods()) {
      if (Modifier.isPrivate(m.getModifiers())) {
        due("private " + m.getName() + " bears a public name", open.contains(m.getName()), false);
      }
    }
  }

  public static void main(String[] args) {
    due("modifiers of the class", Modifier.toString(TreeCompare.class.getModifiers()), "public final");
    due("members that can be seen", visibleMembers(), FACE);
    due("BAD", TreeCompare.BAD, -1);
    due("nested classes", TreeCompare.class.getDeclaredClasses().length, 0);
    noPrivateMethodBearsAPublicName();
    System.out.println(wrong == 0 ? "the face is as due" : wrong + " parts of the face are not as due");
    if (wrong != 0) System.exit(1);
  }
}
