import java.lang.reflect.Constructor;
import java.lang.reflect.Field;
import java.lang.reflect.Method;
import java.lang.reflect.Modifier;
import java.util.Arrays;
import java.util.Set;
import java.util.TreeSet;

/** The class has the document's face and nothing else that can be seen from outside (LANGUAGE.md, rule 1). */
public final class FaceTest {
  private static final String[] FACE = {
    "int cell(int,boolean)", "int lead(int,int,int,int)", "int start(int)", "int act(int)", "int seen(int)",
    "int walk(int,int)", "int sheets()", "int sheet(int,int)", "int leads(int,int,int)", "int sign(int,int)",
    "int known()", "int one(int,int)", "int part(int,int)", "int next(int)", "int go(int,int)", "int way(int)",
    "int hand(int,int,int)", "int fits()", "int isTrue(int)", "int count(int)", "int reached()",
    "int keep(int,int,int)", "int make(int,int,int)", "long element(int,int)", "int copy(int,int,int,int,int)",
    "int weight(int)", "int toss(int)"};

  public static void main(String[] args) {
    Class<RoomMapper> c = RoomMapper.class;
    Check.due("public final", c.getModifiers() & (Modifier.PUBLIC | Modifier.FINAL), Modifier.PUBLIC | Modifier.FINAL);
    Set<String> face = new TreeSet<>();
    Set<String> hidden = new TreeSet<>();
    Set<String> names = new TreeSet<>();
    for (Method m : c.getDeclaredMethods()) {
      if (Modifier.isPrivate(m.getModifiers())) {
        hidden.add(m.getName());
      } else {
        String types = Arrays.toString(Arrays.stream(m.getParameterTypes()).map(Class::getName).toArray());
        face.add(m.getReturnType() + " " + m.getName() + "(" + types.replaceAll("[\\[\\] ]", "") + ")");
        names.add(m.getName());
        Check.due(m.getName() + " is public and not static", m.getModifiers(), Modifier.PUBLIC);
      }
    }
    Check.due("the face is " + face, face.equals(new TreeSet<>(Arrays.asList(FACE))) ? 1 : 0, 1);
    hidden.retainAll(names);
    Check.due("private methods named as public ones: " + hidden, hidden.size(), 0);
    for (Field f : c.getDeclaredFields()) {
      Check.due("field " + f.getName() + " is private", Modifier.isPrivate(f.getModifiers()) ? 1 : 0, 1);
    }
    Constructor<?>[] made = c.getDeclaredConstructors();
    Check.due("constructors", made.length, 1);
    Check.due("constructor's modifiers", made[0].getModifiers(), Modifier.PUBLIC);
    Check.due("constructor's parameters", made[0].getParameterCount(), 0);
    Check.end();
  }
}
