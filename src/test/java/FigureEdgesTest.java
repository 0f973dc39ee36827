import java.math.BigInteger;

/** The edges of promises 50 to 53: figures. */
public final class FigureEdgesTest extends Checks {
  private static final String LENGTHS = "bcdefghijklmnopqrstuvwxyz";
  private static final String FULL = "abcdefghijklmnopqrstuvwxyz".repeat(5).substring(0, 120);

  static void meanLength() {
    tested = "promise 50";
    edge("the empty word: 0", () -> due(0.0, twelve().meanLength(11)));
    edge("one count of 1", () -> {
      Shortsign s = byLengths("bcc", "");
      s.set('a', 1);
      due(1.0, s.meanLength(0));
    });
    edge("both converted to double ahead of dividing", () -> {
      Shortsign s = byLengths("bcc", "");
      s.set('a', 2);
      s.set('b', 1);
      due(4.0 / 3.0, s.meanLength(0));
    });
    edge("the greatest count, of the longest word", () -> {
      Shortsign s = byLengths(LENGTHS + "z", "");
      s.set('z', 9999);
      due(25.0, s.meanLength(0));
    });
    edge("all counts are 9999", () -> {
      Shortsign s = countingAlike(26, 9999);
      due(1239876.0 / 259974.0, s.meanLength(s.least()));
    });
    edge("digits of triples", () -> due(1.0, twoCodes().meanLength(1)));
    edge("IndexOutOfBoundsException if there is no such code", () -> refusesOtherCodes(Shortsign::meanLength));
    edge("NoSuchElementException if a sign with a count above 0 has no word", () ->
        refuses(NONE, FigureEdgesTest::countedBeyond, s -> s.meanLength(0)));
    edge("ArithmeticException if no count is above 0", () -> {
      refuses(ARITHMETIC, () -> byLengths("bcc", "abc"), s -> s.meanLength(0));
      refuses(ARITHMETIC, FigureEdgesTest::uncounted, s -> s.meanLength(1));
    });
    edge("no such code, and a sign without a word", () ->
        refuses(INDEX, FigureEdgesTest::countedBeyond, s -> s.meanLength(2)));
    edge("no such code, and no count is above 0", () -> {
      refuses(INDEX, FigureEdgesTest::uncounted, s -> s.meanLength(2));
      refuses(INDEX, Shortsign::new, s -> s.meanLength(-1));
    });
  }

  private static Shortsign countedBeyond() {
    Shortsign s = twoCodes();
    s.set('z', 1);
    return s;
  }

  private static Shortsign uncounted() {
    Shortsign s = twoCodes();
    s.clear();
    return s;
  }

  private static float shareOf(String... lengths) {
    Shortsign s = counting(1, 1);
    for (String signs : lengths) {
      retype(s, signs);
      s.byLengths();
      s.triple();
    }
    return s.fullShare();
  }

  static void fullShare() {
    tested = "promise 51";
    edge("all are just 1", () -> {
      due(1f, shareOf("bb", "bcc", LENGTHS + "z"));
      due(1f, twelve().fullShare());
    });
    edge("none is", () -> due(0f, shareOf("b", "cc")));
    edge("the least less than 1 is not", () -> due(0f, shareOf(LENGTHS)));
    edge("both converted to float ahead of dividing", () -> {
      due(1f / 3f, shareOf("b", "bb", "z"));
      due(2f / 3f, shareOf("bb", "b", "ccbaa"));
    });
    edge("codes with triples are left out, sound as they are", () -> {
      Shortsign s = counting(1, 1, 1);
      s.triple();
      s.least();
      retype(s, "b");
      s.byLengths();
      due(0.5f, s.fullShare());
    });
    edge("each other kind of 26 signs", () -> {
      Shortsign s = countingAlike(26, 3);
      s.least();
      s.bounded(5);
      s.ordered();
      due(1f, s.fullShare());
    });
    edge("ArithmeticException if there are none", () -> {
      refuses(ARITHMETIC, Shortsign::new, Shortsign::fullShare);
      refuses(ARITHMETIC, () -> {
        Shortsign s = twelve();
        s.forget();
        return s;
      }, Shortsign::fullShare);
    });
    edge("none but codes with triples", () -> refuses(ARITHMETIC, () -> {
      Shortsign s = counting(1, 1, 1);
      for (int code = 0; code < 12; code++) s.triple();
      return s;
    }, Shortsign::fullShare));
  }

  /** The sum without a bound to it, brought into a long at the end. */
  private static long sumOf(String parts) {
    BigInteger sum = BigInteger.valueOf(7);
    for (String part : parts.trim().split(" ")) sum = sum.multiply(BigInteger.valueOf(31)).add(new BigInteger(part));
    return sum.longValue();
  }

  private static String times(int many, String part) {
    return (part + " ").repeat(many);
  }

  static void checksum() {
    tested = "promise 52";
    edge("7 at first, and the counts of a new object", () -> due(sumOf(times(26, "0")), new Shortsign().checksum()));
    edge("the counts by signs, the greatest ones", () -> {
      due(sumOf(times(26, "9999")), countingAlike(26, 9999).checksum());
      due(sumOf("1 " + times(25, "0")), counting(1).checksum());
    });
    edge("the number of each typed sign: a counts 0", () -> {
      due(sumOf(times(26, "0") + "0"), typing("a").checksum());
      due(sumOf(times(26, "0") + "25 0"), typing("za").checksum());
    });
    edge("a long that goes round: 120 typed", () -> due(sumOf(times(26, "0") + times(120, "25")), typing("z".repeat(120)).checksum()));
    edge("the empty word counts 0, no word -1", () -> {
      Shortsign s = counting(1);
      s.least();
      due(sumOf("1 " + times(25, "0") + "0 " + times(25, "-1")), s.checksum());
    });
    edge("the longest word counts 25", () -> {
      Shortsign s = byLengths("a".repeat(25) + "z", "");
      due(sumOf(times(26, "0") + times(25, "-1") + "25"), s.checksum());
    });
    edge("12 codes, each kind alike", () -> {
      Shortsign s = counting(1, 1);
      for (int code = 0; code < 4; code++) {
        s.least();
        s.ordered();
        s.triple();
      }
      due(sumOf("1 1 " + times(24, "0") + times(12, "1 1 " + times(24, "-1").trim())), s.checksum());
    });
    edge("the bits of the stream", () -> {
      Shortsign s = written("bb", "abba");
      s.wipe();
      s.forget();
      due(sumOf(times(26, "0") + "0 1 1 0"), s.checksum());
    });
    edge("the longest stream", () -> {
      Shortsign s = written(LENGTHS + "z", "z".repeat(120));
      s.wipe();
      s.forget();
      due(sumOf(times(26, "0") + times(3000, "1")), s.checksum());
    });
    edge("counts, typed row, codes, stream: in this order", () -> {
      Shortsign s = written("bb", "b");
      s.set('z', 3);
      due(sumOf(times(25, "0") + "3 1 1 1 " + times(24, "-1") + "1"), s.checksum());
    });
    edge("how many were written is left out", () -> {
      Shortsign s = counting(1);
      s.least();
      long sum = s.checksum();
      type(s, "aaa");
      s.write(0);
      s.wipe();
      due(sum, s.checksum());
    });
  }

  private static void sound(Shortsign s) {
    long sum = s.checksum();
    int written = s.written();
    due(true, s.isSound());
    due(sum, s.checksum());
    due(written, s.written());
    due(true, s.isSound());
  }

  static void isSound() {
    tested = "promise 53";
    edge("nothing at all", () -> sound(new Shortsign()));
    edge("no counts, but codes", () -> sound(uncounted()));
    edge("one sign, the empty word", () -> {
      Shortsign s = twelve();
      type(s, "a".repeat(120));
      s.write(11);
      sound(s);
    });
    edge("two signs, by the least bound", () -> sound(counting(9999, 1)));
    edge("just as many signs as 2 to the power of a bound, and one more", () -> {
      for (int signs : new int[] {2, 3, 4, 5, 8, 9, 16, 17, 26}) sound(countingAlike(signs, 9999));
    });
    edge("the steepest counts", () ->
        sound(counting(1, 1, 2, 3, 5, 8, 13, 21, 34, 55, 89, 144, 233, 377, 610, 987, 1597, 2584, 4181, 6765)));
    edge("all kinds of 26 signs, and 120 typed", () -> {
      Shortsign s = typing(FULL);
      s.take();
      for (int round = 0; round < 3; round++) {
        s.least();
        s.bounded(5);
        s.ordered();
        s.triple();
      }
      s.writeGrowing();
      sound(s);
      due(FULL, text(s));
    });
    edge("codes by lengths, full or not", () -> {
      sound(byLengths(LENGTHS + "z", "z".repeat(120)));
      sound(byLengths("z", "aaa"));
    });
    edge("a typed sign has no word", () -> sound(byLengths("bcc", "abcd")));
    edge("the last signs of each row", () -> sound(typing("z".repeat(120))));
    edge("nothing is changed by that", () -> {
      Shortsign s = written("bcc", "cab");
      s.turn(0);
      sound(s);
      due("cab", text(s));
      due("01010", stream(s));
      due(3, s.written());
      due("a0 b10 c11", words(s, 0));
    });
  }

  public static void main(String[] args) {
    meanLength();
    fullShare();
    checksum();
    isSound();
    end("");
  }
}
