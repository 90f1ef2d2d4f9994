import java.lang.reflect.Constructor;
import java.lang.reflect.Field;
import java.lang.reflect.Method;
import java.lang.reflect.Modifier;
import java.util.Arrays;
import java.util.Set;
import java.util.TreeSet;

/** The public face of the document, and rule 1 of LANGUAGE.md: nothing more of it can be seen. */
public final class FaceTest {
  private static final Checks CHECKS = new Checks();
  private static final String[] METHODS = {"boolean put(long)", "void scrap()", "int build()", "boolean load()",
      "int size()", "long image(int)", "int rank(int, int)", "int suffix(int)", "int walk(int)", "int sequences()",
      "int length(int)", "long extract(int, int)", "int count(long)", "int place(long, int)", "int matches(long, int)",
      "int match(long, int, int)"};

  public static void main(String[] args) {
    Class<?> face = SelfIndexedSequences.class;
    CHECKS.due("public", Modifier.isPublic(face.getModifiers()), true);
    CHECKS.due("final", Modifier.isFinal(face.getModifiers()), true);
    CHECKS.due("NONE", SelfIndexedSequences.NONE, -1);
    methods(face);
    fields(face);
    constructors(face);
    for (Class<?> inside : face.getDeclaredClasses()) {
      int how = inside.getModifiers();
      CHECKS.due(inside.getName() + " is static", Modifier.isStatic(how), true);
      CHECKS.due(inside.getName() + " is hidden", Modifier.isPublic(how) || Modifier.isProtected(how), false);
    }
    CHECKS.end();
  }

  private static void methods(Class<?> face) {
    Set<String> seen = new TreeSet<>();
    Set<String> publicNames = new TreeSet<>();
    Set<String> privateNames = new TreeSet<>();
    for (Method method : face.getDeclaredMethods()) {
      if (Modifier.isPrivate(method.getModifiers())) {
        privateNames.add(method.getName());
      } else {
        CHECKS.due(method + " is public", Modifier.isPublic(method.getModifiers()), true);
        publicNames.add(method.getName());
        String types = Arrays.toString(method.getParameterTypes());
        seen.add(method.getReturnType() + " " + method.getName() + "(" + types.substring(1, types.length() - 1) + ")");
      }
    }
    CHECKS.due("methods " + seen, seen.equals(new TreeSet<>(Arrays.asList(METHODS))), true);
    privateNames.retainAll(publicNames);
    CHECKS.due("private methods named as public ones " + privateNames, privateNames.size(), 0);
  }

  private static void fields(Class<?> face) {
    for (Field field : face.getDeclaredFields()) {
      boolean none = field.getName().equals("NONE");
      CHECKS.due(field + " is public", Modifier.isPublic(field.getModifiers()), none);
      CHECKS.due(field + " is private", Modifier.isPrivate(field.getModifiers()), !none);
    }
  }

  private static void constructors(Class<?> face) {
    Constructor<?>[] all = face.getDeclaredConstructors();
    CHECKS.due("constructors", all.length, 1);
    CHECKS.due("its types", Arrays.toString(all[0].getParameterTypes()).equals("[int]"), true);
    CHECKS.due("it is public", Modifier.isPublic(all[0].getModifiers()), true);
  }
}
