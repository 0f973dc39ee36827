import java.lang.reflect.InvocationTargetException;
import java.lang.reflect.Method;
import java.util.ArrayList;
import java.util.Arrays;
import java.util.Comparator;
import java.util.List;

/** Runs of calls, drawn by a fixed rule, on the program and on the model: each answer and what is left must agree. */
public final class ModelTest {
  private static final int RUNS = 600;
  private static final int CALLS = 170;

  private static long seed;
  private static int wrong = 0;

  private static int draw(int below) {
    seed = seed * 6364136223846793005L + 1442695040888963407L;
    return (int) ((seed >>> 33) % below);
  }

  private static final int[] EDGES = {
    Integer.MIN_VALUE, -2, -1, 0, 1, 2, 3, 4, 5, 7, 8, 9, 11, 12, 13, 25, 26, 27, 119, 120, 121, 255, 256, 2999, 3000,
    9999, 10000, Integer.MAX_VALUE - 31, Integer.MAX_VALUE
  };
  private static final char[] NO_SIGNS = {0, '`', '{', 'A', 'Z', 255, 0x161, 0xffff};

  /** Which calls a run makes the more often, so that each state is met: long texts, many codes, streams. */
  private static final String[] OFTEN = {
    "type", "typeMore", "typeMore", "typeMore", "take", "set", "set", "least", "bounded", "ordered", "byLengths",
    "write", "write", "writeGrowing", "read", "readGrowing", "turn", "inStep", "lost", "wordBit", "signAt"
  };

  private static char sign(int letters) {
    if (draw(60) == 0) return NO_SIGNS[draw(NO_SIGNS.length)];
    return (char) ('a' + Math.min(draw(letters), draw(letters)));
  }

  private static int usualNumber(String call, int which, Model model) {
    switch (call) {
      case "typeMore": return 1 + draw(8);
      case "typed": case "saved": return draw(model.length() + 1);
      case "set": return draw(4) == 0 ? 0 : draw(3) == 0 ? draw(10000) : draw(12);
      case "bounded": case "boundCost": return 1 + draw(draw(2) == 0 ? 6 : 25);
      case "fewestFor": return 1 + draw(25);
      case "countFor": return draw(26);
      case "blockBits": return 1 + draw(4);
      case "bitAt": case "turn": return draw(model.streamBits() + 1);
      case "byteAt": return draw(model.streamBits() / 8 + 1);
      default: break;
    }
    if (which == 0) return draw(model.codes() + 1);
    switch (call) {
      case "signAt": return draw(27);
      case "wordBit": return draw(6);
      case "lookup": return which == 1 ? 1 + draw(8) : draw(1 << (1 + draw(8)));
      default: return draw(model.streamBits() + 1);
    }
  }

  private static Object[] arguments(Method call, Model model, int letters) {
    Class<?>[] types = call.getParameterTypes();
    Object[] drawn = new Object[types.length];
    for (int i = 0; i < types.length; i++) {
      if (types[i] == char.class) drawn[i] = sign(letters);
      else drawn[i] = draw(25) == 0 ? EDGES[draw(EDGES.length)] : usualNumber(call.getName(), i, model);
    }
    return drawn;
  }

  private static String answer(Object on, Method call, Object[] arguments) throws Exception {
    try {
      return String.valueOf(on.getClass().getMethod(call.getName(), call.getParameterTypes()).invoke(on, arguments));
    } catch (InvocationTargetException e) {
      StackTraceElement[] from = e.getCause().getStackTrace();
      boolean byItself = on instanceof Shortsign && !from[0].getClassName().startsWith("Shortsign");
      return (byItself ? "the machine or the library throws." : "throws.") + e.getCause().getClass().getSimpleName();
    }
  }

  private static Method[] face() {
    List<Method> face = new ArrayList<>();
    for (Method m : Shortsign.class.getDeclaredMethods()) {
      if (java.lang.reflect.Modifier.isPublic(m.getModifiers())) face.add(m);
    }
    face.sort(Comparator.comparing(Method::getName));
    return face.toArray(new Method[0]);
  }

  private static Method next(Method[] face) {
    if (draw(3) > 0) {
      String name = OFTEN[draw(OFTEN.length)];
      for (Method m : face) if (m.getName().equals(name)) return m;
    }
    Method drawn = face[draw(face.length)];
    // Emptying calls are let pass only now and then: otherwise no run gets far.
    boolean empties = drawn.getName().equals("wipe") || drawn.getName().equals("forget") || drawn.getName().equals("clear");
    return empties && draw(4) > 0 ? next(face) : drawn;
  }

  private static void run(int run, Method[] face) throws Exception {
    seed = run;
    int letters = new int[] {1, 2, 3, 4, 6, 10, 26, 26}[run % 8];
    Shortsign program = new Shortsign();
    Model model = new Model();
    for (int call = 0; call < CALLS; call++) {
      Method method = next(face);
      Object[] arguments = arguments(method, model, letters);
      String due = answer(model, method, arguments);
      String got = answer(program, method, arguments);
      if (!due.equals(got) || model.checksum() != program.checksum() || model.written() != program.written()) {
        wrong++;
        System.out.println("run " + run + ", call " + call + ": " + method.getName() + Arrays.toString(arguments)
            + " answered " + got + ", due is " + due + "; checksums " + program.checksum() + ", " + model.checksum());
        return;
      }
    }
  }

  // All short streams, read by codes that have a word for all bits and by such that do not.

  private static final int LONGEST_STREAM = 8;
  private static final String[] LENGTHS = {"b", "bb", "bc", "bcc", "cc", "ccdd", "d", "dbd"};

  private static void makeStream(Shortsign program, Model model, int length, int bits, String lengths) {
    program.type('b');
    program.type('b');
    model.type('b');
    model.type('b');
    program.byLengths();
    model.byLengths();
    program.wipe();
    model.wipe();
    for (int left = length - 1; left >= 0; left--) {
      program.type((bits >> left & 1) == 0 ? 'a' : 'b');
      model.type((bits >> left & 1) == 0 ? 'a' : 'b');
    }
    program.write(0);
    model.write(0);
    program.wipe();
    model.wipe();
    for (char sign : lengths.toCharArray()) {
      program.type(sign);
      model.type(sign);
    }
    program.byLengths();
    model.byLengths();
  }

  private static void allStreams() {
    for (String lengths : LENGTHS) {
      for (int length = 1; length <= LONGEST_STREAM; length++) {
        for (int bits = 0; bits < 1 << length; bits++) {
          Shortsign program = new Shortsign();
          Model model = new Model();
          makeStream(program, model, length, bits, lengths);
          boolean like = program.lost(1, 0) == model.lost(1, 0);
          for (int place = 0; place < length; place++) like &= program.inStep(1, place) == model.inStep(1, place);
          like &= program.read(1) == model.read(1) && program.checksum() == model.checksum();
          like &= program.readGrowing() == model.readGrowing() && program.checksum() == model.checksum();
          if (!like) {
            wrong++;
            System.out.println("stream " + bits + " of " + length + " bits, read by the lengths " + lengths);
          }
        }
      }
    }
  }

  // All texts that are short enough, to find the fewest signs for a word of so many bits.

  private static boolean someWordHas(List<int[]> trees, int bits) {
    if (trees.size() == 1) return trees.get(0)[1] == bits;
    int[] order = trees.stream().mapToInt(t -> t[0]).sorted().toArray();
    for (int i = 0; i < trees.size(); i++) {
      for (int j = i + 1; j < trees.size(); j++) {
        int low = Math.min(trees.get(i)[0], trees.get(j)[0]);
        int high = Math.max(trees.get(i)[0], trees.get(j)[0]);
        if (low != order[0] || high != order[1]) continue;
        for (int[] deep : List.of(trees.get(i), trees.get(j))) {
          List<int[]> left = new ArrayList<>(trees);
          left.remove(trees.get(i));
          left.remove(trees.get(j));
          left.add(new int[] {low + high, deep[1] + 1});
          if (someWordHas(left, bits)) return true;
        }
      }
    }
    return false;
  }

  private static boolean someText(List<int[]> trees, int signs, int most, int bits) {
    if (signs == 0) return !trees.isEmpty() && someWordHas(trees, bits);
    for (int count = Math.min(signs, most); count >= 1; count--) {
      List<int[]> more = new ArrayList<>(trees);
      more.add(new int[] {count, 0});
      if (someText(more, signs - count, count, bits)) return true;
    }
    return false;
  }

  private static void fewest() {
    Shortsign program = new Shortsign();
    for (int bits = 1; bits <= 4; bits++) {
      int signs = 1;
      while (!someText(new ArrayList<>(), signs, signs, bits)) signs++;
      if (program.fewestFor(bits) != signs) {
        wrong++;
        System.out.println("fewestFor(" + bits + ") answered " + program.fewestFor(bits) + ", due is " + signs);
      }
    }
  }

  public static void main(String[] args) throws Exception {
    Method[] face = face();
    int runs = args.length > 0 ? Integer.parseInt(args[0]) : RUNS;
    for (int run = 0; run < runs; run++) run(run, face);
    allStreams();
    fewest();
    System.out.println(wrong == 0 ? "program and model agree" : wrong + " runs do not agree");
    if (wrong != 0) System.exit(1);
  }
}
