import java.lang.reflect.Constructor;
import java.lang.reflect.Field;
import java.lang.reflect.Method;
import java.lang.reflect.Modifier;
import java.util.Arrays;
import java.util.Set;
import java.util.TreeSet;
import java.util.stream.Collectors;

/** The class has the document's face and nothing else that can be seen from outside (LANGUAGE.md, rule 1). */
public final class FaceTest {
  private static final String[] FACE = {
    "int cell(int,boolean)", "int lead(int,int,int,int)", "int start(int)", "int act(int)", "int seen(int)",
    "int walk(int,int)", "int sheets()", "int sheet(int,int)", "int leads(int,int,int)", "int sign(int,int)",
    "int known()", "int one(int,int)", "int part(int,int)", "int next(int)", "int go(int,int)", "int way(int)",
    "int hand(int,int,int)", "int fits()", "int isTrue(int)", "int count(int)", "int reached()",
    "int keep(int,int,int)", "int make(int,int,int)",
    "long element(int,int) throws java.lang.IllegalArgumentException,java.lang.IllegalStateException",
    "int copy(int,int,int,int,int)", "int weight(int)", "int toss(int)"};

  public static void main(String[] args) {
    Class<RoomMapper> c = RoomMapper.class;
    Check.due("public final", c.getModifiers(), Modifier.PUBLIC | Modifier.FINAL);
    Check.due("it is a class of its own", c.getSuperclass() == Object.class ? c.getInterfaces().length : 1, 0);
    methods(c);
    fields(c);
    constructor(c);
    classesInside(c);
    Check.end();
  }

  private static void methods(Class<?> c) {
    Set<String> face = new TreeSet<>();
    Set<String> hidden = new TreeSet<>();
    Set<String> names = new TreeSet<>();
    for (Method m : c.getDeclaredMethods()) {
      if (Modifier.isPrivate(m.getModifiers())) {
        hidden.add(m.getName());
      } else {
        face.add(told(m));
        names.add(m.getName());
        Check.due(m.getName() + " is public and not static", m.getModifiers(), Modifier.PUBLIC);
      }
    }
    Check.due("the face is " + face, face.equals(new TreeSet<>(Arrays.asList(FACE))) ? 1 : 0, 1);
    hidden.retainAll(names);
    Check.due("private methods named as public ones: " + hidden, hidden.size(), 0);
  }

  private static String told(Method m) {
    String thrown = m.getExceptionTypes().length == 0 ? "" : " throws " + names(m.getExceptionTypes());
    return m.getReturnType() + " " + m.getName() + "(" + names(m.getParameterTypes()) + ")" + thrown;
  }

  private static String names(Class<?>... types) {
    return Arrays.stream(types).map(Class::getName).collect(Collectors.joining(","));
  }

  private static void fields(Class<?> c) {
    for (Field f : c.getDeclaredFields()) {
      Check.due("field " + f.getName() + " is private", Modifier.isPrivate(f.getModifiers()) ? 1 : 0, 1);
    }
  }

  private static void constructor(Class<?> c) {
    Constructor<?>[] made = c.getDeclaredConstructors();
    Check.due("constructors", made.length, 1);
    Check.due("constructor's modifiers", made[0].getModifiers(), Modifier.PUBLIC);
    Check.due("constructor's parameters", made[0].getParameterCount(), 0);
    Check.due("constructor's exceptions", made[0].getExceptionTypes().length, 0);
  }

  private static void classesInside(Class<?> c) {
    for (Class<?> inside : c.getDeclaredClasses()) {
      int seen = inside.getModifiers() & (Modifier.PUBLIC | Modifier.PROTECTED | Modifier.STATIC);
      Check.due("class " + inside.getName() + " is static, and neither public nor protected", seen, Modifier.STATIC);
    }
  }
}
