import java.lang.reflect.Constructor;
import java.lang.reflect.Field;
import java.lang.reflect.Method;
import java.lang.reflect.Modifier;
import java.util.Set;
import java.util.TreeSet;

/** The public face as the document tells it: no member more, no member less, and the exceptions in their order. */
public final class FaceTest {
  private static final String[] FACE = {
      "int feed(int, long) throws IllegalArgumentException, IllegalStateException",
      "int copy()",
      "boolean poke(int, int)",
      "boolean cut(int)",
      "int family(int) throws IllegalArgumentException, UnsupportedOperationException, IllegalStateException",
      "int bound(int, long) throws IllegalArgumentException, IllegalStateException",
      "int state(int) throws IllegalArgumentException, IllegalStateException",
      "void common() throws IllegalArgumentException",
      "void cap(int, int) throws IllegalArgumentException",
      "int child(int) throws IllegalArgumentException, UnsupportedOperationException, IllegalStateException",
      "void remove(int) throws NoSuchElementException",
      "void add(int, long, boolean) throws NoSuchElementException, IllegalArgumentException, IllegalStateException",
      "void set(int, long) throws NoSuchElementException, IllegalArgumentException",
      "void observe(int, long, boolean) throws NoSuchElementException, IllegalArgumentException, IllegalStateException",
      "void turn(int, int, boolean) throws NoSuchElementException",
      "long tick(int) throws IllegalArgumentException",
      "int write(int, int) throws IllegalArgumentException",
      "long text(int) throws NoSuchElementException",
      "int read()",
      "int place()",
      "boolean same()",
      "int look(int, int) throws IllegalArgumentException",
      "int familyOf(int, int, int) throws IllegalArgumentException",
      "long childOf(int, int, int) throws IllegalArgumentException, NoSuchElementException",
      "long bucket(int, int, int, int) throws IllegalArgumentException, NoSuchElementException",
  };

  public static void main(String[] args) {
    Check.due("public and final", Modifier.PUBLIC | Modifier.FINAL, MeterSheet.class.getModifiers());
    Set<String> open = new TreeSet<>();
    Set<String> names = new TreeSet<>();
    for (Method method : MeterSheet.class.getDeclaredMethods()) {
      if (!Modifier.isPrivate(method.getModifiers())) {
        open.add(told(method));
        names.add(method.getName());
        Check.due(method + " is public", true, Modifier.isPublic(method.getModifiers()));
      }
    }
    Check.due("the methods", new TreeSet<>(Set.of(FACE)), open);
    for (Constructor<?> constructor : MeterSheet.class.getDeclaredConstructors()) {
      Check.due(constructor + " takes nothing", 0, constructor.getParameterCount());
    }
    fieldsArePrivate();
    classesInside(names);
    Check.end();
  }

  private static void fieldsArePrivate() {
    for (Field field : MeterSheet.class.getDeclaredFields()) {
      Check.due(field + " is private", true, Modifier.isPrivate(field.getModifiers()));
      Check.due(field + " is final if static", true,
          !Modifier.isStatic(field.getModifiers()) || Modifier.isFinal(field.getModifiers()));
    }
  }

  private static void classesInside(Set<String> names) {
    Class<?>[] inside = MeterSheet.class.getDeclaredClasses();
    Check.due("at most twelve classes", true, inside.length + 1 <= 12);
    for (Class<?> type : inside) {
      Check.due(type + " is private and static", true,
          Modifier.isPrivate(type.getModifiers()) && Modifier.isStatic(type.getModifiers()));
      Check.due(type + " has some twenty fields at most", true, type.getDeclaredFields().length <= 20);
      for (Method method : type.getDeclaredMethods()) {
        Check.due(method + " bears no name of the face", false, names.contains(method.getName()));
        Check.due(method + " takes seven at most", true, method.getParameterCount() <= 7);
      }
    }
  }

  private static String told(Method method) {
    StringBuilder out = new StringBuilder();
    out.append(method.getReturnType()).append(' ').append(method.getName()).append('(');
    for (int k = 0; k < method.getParameterCount(); k++) {
      out.append(k == 0 ? "" : ", ").append(method.getParameterTypes()[k]);
    }
    out.append(')');
    for (int k = 0; k < method.getExceptionTypes().length; k++) {
      out.append(k == 0 ? " throws " : ", ").append(method.getExceptionTypes()[k].getSimpleName());
    }
    return out.toString();
  }
}
