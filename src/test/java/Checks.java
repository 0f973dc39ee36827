import java.util.ArrayList;
import java.util.Arrays;
import java.util.List;
import java.util.NoSuchElementException;

/** What the tests share: what is due, what is refused, and how a state is made. No object is used for over 512 calls. */
abstract class Checks {
  interface Call {
    Object answer();
  }

  interface Maker {
    Shortsign make();
  }

  interface On {
    Object answer(Shortsign s);
  }

  interface OnCode {
    Object answer(Shortsign s, int code);
  }

  static final Class<?> ARGUMENT = IllegalArgumentException.class;
  static final Class<?> STATE = IllegalStateException.class;
  static final Class<?> INDEX = IndexOutOfBoundsException.class;
  static final Class<?> NONE = NoSuchElementException.class;
  static final Class<?> UNSUPPORTED = UnsupportedOperationException.class;
  static final Class<?> ARITHMETIC = ArithmeticException.class;

  static final int LOWEST = Integer.MIN_VALUE;
  static final int HIGHEST = Integer.MAX_VALUE;

  private static int wrong = 0;
  private static int edges = 0;

  /** What is being tested, told with each answer that is not as due. */
  static String tested = "";

  private static void tell(String what) {
    wrong++;
    String line = "";
    for (StackTraceElement at : new Throwable().getStackTrace()) {
      if (line.isEmpty() && !at.getClassName().equals("Checks")) line = at.getFileName() + ":" + at.getLineNumber();
    }
    System.out.println(tested + ": " + what + ", at " + line);
  }

  static void due(Object want, Object got) {
    if (!want.equals(got)) tell("answered " + got + ", due is " + want);
  }

  /** The call throws just this, by a throw of the program, and changes nothing that a sum over all would tell. */
  static void refused(Class<?> want, Shortsign s, Call call) {
    long sum = s.checksum();
    int written = s.written();
    due(want, answer(call));
    if (sum != s.checksum() || written != s.written()) tell("a refused call changed something");
  }

  /** The call throws just this, and later calls answer as they do without it. */
  static void refuses(Class<?> want, Maker maker, On call) {
    Shortsign s = maker.make();
    due(want, answer(() -> call.answer(s)));
    List<Object> without = later(maker.make());
    List<Object> with = later(s);
    for (int i = 0; i < with.size(); i++) {
      if (!with.get(i).equals(without.get(i))) {
        tell("behind a refused call the later one " + i + " answered " + with.get(i) + ", due is " + without.get(i));
        return;
      }
    }
  }

  /** Each number that no code has is refused: with none made, with two, with twelve, and behind forget. */
  static void refusesOtherCodes(OnCode call) {
    for (int no : new int[] {-1, 0, 1, LOWEST, HIGHEST}) refuses(INDEX, () -> typing("ab"), s -> call.answer(s, no));
    for (int no : new int[] {-1, 2, 3, 11, 12, LOWEST, HIGHEST}) refuses(INDEX, Checks::twoCodes, s -> call.answer(s, no));
    for (int no : new int[] {-1, 12, 13}) refuses(INDEX, Checks::twelve, s -> call.answer(s, no));
    refuses(INDEX, () -> {
      Shortsign s = twoCodes();
      s.forget();
      return s;
    }, s -> call.answer(s, 0));
  }

  /** A test of its own for a sentence that names a boundary. */
  static void edge(String sentence, Runnable test) {
    edges++;
    String outer = tested;
    tested = outer + ", " + sentence;
    try {
      test.run();
    } catch (RuntimeException e) {
      tell("threw " + e);
    }
    tested = outer;
  }

  static void end(String well) {
    System.out.println(wrong > 0 ? wrong + " answers are not as due" : edges > 0 ? edges + " edges hold" : well);
    if (wrong > 0) System.exit(1);
  }

  private static Object answer(Call call) {
    try {
      return call.answer();
    } catch (RuntimeException e) {
      return thrownByProgram(e) ? e.getClass() : "a throw by the machine or the library: " + e;
    }
  }

  private static boolean thrownByProgram(RuntimeException e) {
    StackTraceElement[] from = e.getStackTrace();
    return from.length > 0 && from[0].getClassName().startsWith("Shortsign");
  }

  /** What many calls answer one after the other, some 220: two objects of like state tell the same. */
  private static List<Object> later(Shortsign s) {
    List<Object> told = new ArrayList<>();
    tellAll(told, s, Shortsign::checksum, Shortsign::written, Shortsign::length, Shortsign::codes, Shortsign::streamBits,
        Shortsign::isSound, Shortsign::leastBits, Shortsign::orderCost, Shortsign::bestCut, Shortsign::fullShare,
        x -> x.boundCost(5), x -> x.blockBits(2), x -> x.saved(1), x -> x.typed(0), x -> x.byteAt(0));
    for (int i = 0; i < 12; i++) {
      int code = i;
      tellAll(told, s, x -> x.kindOf(code), x -> x.signs(code), x -> x.longest(code), x -> x.sum(code),
          x -> x.bits(code), x -> x.meanLength(code), x -> x.signAt(code, 1), x -> x.wordBit(code, 'b', 0),
          x -> x.lookup(code, 8, 0xb2), x -> x.inStep(code, 0), x -> x.lost(code, 0));
    }
    tellAll(told, s, x -> lengths(x, x.codes() - 1), x -> x.read(0), Shortsign::checksum, Shortsign::readGrowing,
        Shortsign::checksum, x -> x.type('b'), Shortsign::moves, Shortsign::checksum, Shortsign::unmoves,
        Shortsign::runs, Shortsign::checksum, Shortsign::unruns, x -> x.write(0), Shortsign::checksum,
        x -> x.turn(0), Shortsign::writeGrowing, Shortsign::checksum, x -> x.set('c', 3), x -> x.count('a'),
        Shortsign::take, Shortsign::least, Shortsign::ordered, Shortsign::byLengths, Shortsign::checksum,
        Shortsign::forget, Shortsign::triple, x -> x.bounded(5), Shortsign::checksum, Shortsign::clear,
        Shortsign::wipe, Shortsign::checksum, Shortsign::written);
    return told;
  }

  private static void tellAll(List<Object> told, Shortsign s, On... calls) {
    for (On call : calls) told.add(answer(() -> call.answer(s)));
  }

  static Shortsign typing(String signs) {
    Shortsign s = new Shortsign();
    type(s, signs);
    return s;
  }

  static void type(Shortsign s, String signs) {
    for (int from = 0; from < signs.length(); from += 8) {
      String next = signs.substring(from, Math.min(from + 8, signs.length()));
      String all = next + "aaaaaaaa";
      s.typeMore(next.length(), all.charAt(0), all.charAt(1), all.charAt(2), all.charAt(3), all.charAt(4),
          all.charAt(5), all.charAt(6), all.charAt(7));
    }
  }

  static void retype(Shortsign s, String signs) {
    s.wipe();
    type(s, signs);
  }

  static String text(Shortsign s) {
    StringBuilder text = new StringBuilder();
    int length = s.length();
    for (int place = 0; place < length; place++) text.append(s.typed(place));
    return text.toString();
  }

  static Shortsign counting(int... counts) {
    Shortsign s = new Shortsign();
    for (int sign = 0; sign < counts.length; sign++) s.set((char) ('a' + sign), counts[sign]);
    return s;
  }

  /** The first signs have all the same count. */
  static Shortsign countingAlike(int signs, int count) {
    int[] counts = new int[signs];
    Arrays.fill(counts, count);
    return counting(counts);
  }

  static String word(Shortsign s, int code, char sign) {
    StringBuilder word = new StringBuilder();
    int length = s.wordLength(code, sign);
    for (int place = 0; place < length; place++) word.append(s.wordBit(code, sign, place));
    return word.toString();
  }

  static String words(Shortsign s, int code) {
    StringBuilder words = new StringBuilder();
    for (char sign = 'a'; sign <= 'z'; sign++) {
      try {
        String word = word(s, code, sign);
        words.append(sign).append(word).append(' ');
      } catch (NoSuchElementException e) {
        continue;
      }
    }
    return words.toString().trim();
  }

  static String lengths(Shortsign s, int code) {
    StringBuilder lengths = new StringBuilder();
    for (char sign = 'a'; sign <= 'z'; sign++) {
      try {
        int length = s.wordLength(code, sign);
        lengths.append(sign).append(length).append(' ');
      } catch (NoSuchElementException e) {
        continue;
      }
    }
    return lengths.toString().trim();
  }

  static String stream(Shortsign s) {
    StringBuilder bits = new StringBuilder();
    int length = s.streamBits();
    for (int place = 0; place < length; place++) bits.append(s.bitAt(place));
    return bits.toString();
  }

  /** The words of ccdd are a 00, b 01, c 100, d 101, and no word begins with 11; those of bcc a 0, b 10, c 11. */
  static Shortsign byLengths(String lengths, String signs) {
    Shortsign s = typing(lengths);
    s.byLengths();
    retype(s, signs);
    return s;
  }

  static Shortsign written(String lengths, String signs) {
    Shortsign s = byLengths(lengths, signs);
    s.write(0);
    return s;
  }

  /** The code 0 has the words a 0, b 10, c 11, the code 1 is one with triples. */
  static Shortsign twoCodes() {
    Shortsign s = written("bcc", "abca");
    s.take();
    s.triple();
    return s;
  }

  static Shortsign twelve() {
    Shortsign s = counting(1);
    for (int code = 0; code < 12; code++) s.least();
    return s;
  }
}
