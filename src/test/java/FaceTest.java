import java.lang.reflect.Constructor;
import java.lang.reflect.Field;
import java.lang.reflect.Method;
import java.lang.reflect.Modifier;
import java.util.Arrays;
import java.util.Set;
import java.util.TreeSet;

/** The face is that of the document and no more, no inner method bears the name of a public one, and no class is large. */
public final class FaceTest {
  private static final String[] FACE = {
    "int type(char)", "int typeMore(int,char,char,char,char,char,char,char,char)", "int wipe()", "int length()",
    "char typed(int)", "int set(char,int)", "int count(char)", "int take()", "int clear()", "int least()",
    "int bounded(int)", "int ordered()", "int triple()", "int byLengths()", "int forget()", "int codes()",
    "char kindOf(int)", "int signs(int)", "char signAt(int,int)", "int wordLength(int,char)",
    "char wordBit(int,char,int)", "int longest(int)", "int bits(int)", "long sum(int)", "int lookup(int,int,int)",
    "int leastBits()", "int boundCost(int)", "int orderCost()", "int blockBits(int)", "int fewestFor(int)",
    "int countFor(int,int)", "int saved(int)", "int bestCut()", "int write(int)", "int read(int)",
    "int writeGrowing()", "int readGrowing()", "int streamBits()", "int written()", "int bitAt(int)",
    "int turn(int)", "int byteAt(int)", "int inStep(int,int)", "int lost(int,int)", "int moves()", "int unmoves()",
    "int runs()", "int unruns()", "double meanLength(int)", "float fullShare()", "long checksum()",
    "boolean isSound()"
  };

  private static int wrong = 0;

  private static void need(boolean so, String what) {
    if (!so) {
      wrong++;
      System.out.println(what);
    }
  }

  private static String written(Method m) {
    StringBuilder types = new StringBuilder();
    for (Class<?> type : m.getParameterTypes()) types.append(types.length() == 0 ? "" : ",").append(type.getName());
    return m.getReturnType().getName() + " " + m.getName() + "(" + types + ")";
  }

  private static void small(Class<?> within) {
    int fields = 0;
    for (Field f : within.getDeclaredFields()) fields += Modifier.isStatic(f.getModifiers()) ? 0 : 1;
    need(fields <= 20, "more than twenty fields: " + within);
    for (Method m : within.getDeclaredMethods()) {
      need(m.getParameterCount() <= 7 || Modifier.isPublic(m.getModifiers()), "more than seven parameters: " + m);
    }
  }

  private static void inner(Class<?> within, Set<String> names) {
    small(within);
    for (Method m : within.getDeclaredMethods()) {
      need(!names.contains(m.getName()), "an inner method is named as a public one: " + within + " " + m);
    }
    for (Class<?> deeper : within.getDeclaredClasses()) inner(deeper, names);
  }

  public static void main(String[] args) {
    Set<String> due = new TreeSet<>(Arrays.asList(FACE));
    Set<String> found = new TreeSet<>();
    Set<String> names = new TreeSet<>();
    Set<String> hidden = new TreeSet<>();
    for (Method m : Shortsign.class.getDeclaredMethods()) {
      if (Modifier.isPublic(m.getModifiers())) {
        found.add(written(m));
        names.add(m.getName());
        need(!Modifier.isStatic(m.getModifiers()), "static: " + m);
      } else {
        need(Modifier.isPrivate(m.getModifiers()), "neither public nor private: " + m);
        hidden.add(m.getName());
      }
    }
    need(due.equals(found), "the public methods are " + found + ", due are " + due);
    for (String name : hidden) need(!names.contains(name), "a private method is named as a public one: " + name);
    small(Shortsign.class);
    for (Class<?> within : Shortsign.class.getDeclaredClasses()) inner(within, names);
    for (Field f : Shortsign.class.getDeclaredFields()) need(Modifier.isPrivate(f.getModifiers()), "not private: " + f);
    Constructor<?>[] made = Shortsign.class.getDeclaredConstructors();
    need(made.length == 1 && Modifier.isPublic(made[0].getModifiers()) && made[0].getParameterCount() == 0,
        "the constructor is not that of the document");
    need(Shortsign.class.getModifiers() == (Modifier.PUBLIC | Modifier.FINAL), "the class is not public and final");
    System.out.println(wrong == 0 ? "the face is as due" : wrong + " faults of the face");
    if (wrong != 0) System.exit(1);
  }
}
