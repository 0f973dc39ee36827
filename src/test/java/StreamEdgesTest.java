/** The edges of promises 35 to 45: streams. */
public final class StreamEdgesTest extends Checks {
  private static final String FULL = "abcdefghijklmnopqrstuvwxyz".repeat(5).substring(0, 120);
  private static final String LENGTHS = "bcdefghijklmnopqrstuvwxyzz";
  private static final String SIXTEEN = "e".repeat(16);

  /** A stream of just these bits, written as a sign for each; the code 0 has a word for each bit. */
  private static Shortsign bits(String bits) {
    return written("bb", bits.replace('0', 'a').replace('1', 'b'));
  }

  /** A stream of just these bits, written as a sign for four of them. */
  private static Shortsign fours(String bits) {
    StringBuilder signs = new StringBuilder();
    for (int from = 0; from < bits.length(); from += 4) {
      signs.append((char) ('a' + Integer.parseInt(bits.substring(from, from + 4), 2)));
    }
    return written(SIXTEEN, signs.toString());
  }

  private static Shortsign emptyWord(String signs) {
    Shortsign s = counting(1);
    s.least();
    type(s, signs);
    s.write(0);
    return s;
  }

  /** Beside the code 0 with a 0, b 10, c 11 one with triples, and one with the empty word. */
  private static Shortsign threeCodes() {
    Shortsign s = twoCodes();
    s.clear();
    s.set('a', 1);
    s.least();
    return s;
  }

  static void write() {
    tested = "promise 35";
    edge("nothing is typed: no bits", () -> {
      Shortsign s = byLengths("bcc", "");
      due(0, s.write(0));
      due(0, s.streamBits());
      due(0, s.written());
    });
    edge("in place of what was there: nothing", () -> {
      Shortsign s = written("bcc", "abc");
      s.wipe();
      due(0, s.write(0));
      due("", stream(s));
      due(0, s.written());
    });
    edge("in place of what was there: a shorter stream, a longer one", () -> {
      Shortsign s = written("bcc", "bc");
      retype(s, "a");
      due(1, s.write(0));
      due("0", stream(s));
      due(1, s.written());
      retype(s, "cab");
      due(5, s.write(0));
      due("11010", stream(s));
      due(3, s.written());
    });
    edge("the empty word: no bits, but signs", () -> {
      Shortsign s = emptyWord("a".repeat(120));
      due(0, s.streamBits());
      due(120, s.written());
    });
    edge("120 signs of the longest word", () -> {
      Shortsign s = byLengths(LENGTHS, "z".repeat(120));
      due(3000, s.write(0));
      due(1, s.bitAt(2999));
      due(120, s.written());
    });
    edge("the typed row stays", () -> due("abc", text(written("bcc", "abc"))));
    edge("IndexOutOfBoundsException if there is no such code", () -> refusesOtherCodes(Shortsign::write));
    edge("UnsupportedOperationException if it is a code with triples", () -> {
      refuses(UNSUPPORTED, Checks::twoCodes, s -> s.write(1));
      refuses(UNSUPPORTED, () -> {
        Shortsign s = twoCodes();
        s.wipe();
        return s;
      }, s -> s.write(1));
    });
    edge("NoSuchElementException if a typed sign has no word: the first one, the last one", () -> {
      for (String signs : new String[] {"dab", "abd", "z", "aaaaaaaaaaaaaaaaaaaz"}) {
        refuses(NONE, () -> {
          Shortsign s = written("bcc", "cab");
          retype(s, signs);
          return s;
        }, s -> s.write(0));
      }
    });
    edge("no such code, and a typed sign has no word", () -> {
      refuses(INDEX, StreamEdgesTest::typedBeyond, s -> s.write(2));
      refuses(INDEX, StreamEdgesTest::typedBeyond, s -> s.write(-1));
    });
    edge("triples, and a typed sign has no word", () ->
        refuses(UNSUPPORTED, StreamEdgesTest::typedBeyond, s -> s.write(1)));
  }

  private static Shortsign typedBeyond() {
    Shortsign s = twoCodes();
    s.type('z');
    return s;
  }

  static void read() {
    tested = "promise 36";
    edge("nothing was written: no signs, and the typed row becomes empty", () -> {
      Shortsign s = byLengths("bcc", "abc");
      due(0, s.read(0));
      due(0, s.length());
    });
    edge("nothing was written, though there is the empty word", () -> {
      Shortsign s = counting(1);
      s.least();
      type(s, "bc");
      due(0, s.read(0));
      due("", text(s));
    });
    edge("till as many signs were read as were written: bits are left", () -> {
      Shortsign s = written("eeeeeeeeeeeeeeee", "ap");
      retype(s, "bb");
      s.byLengths();
      due(2, s.read(1));
      due("aa", text(s));
      due(8, s.streamBits());
    });
    edge("till as many signs were read as were written: by the empty word", () -> {
      Shortsign s = emptyWord("a".repeat(120));
      retype(s, "zz");
      due(120, s.read(0));
      due("a".repeat(120), text(s));
      Shortsign one = written("bcc", "ccc");
      one.set('z', 9);
      one.least();
      due(3, one.read(1));
      due("zzz", text(one));
    });
    edge("no word is what the first bits begin with", () -> {
      Shortsign s = written("bcc", "cabc");
      retype(s, "d");
      s.byLengths();
      due(0, s.read(1));
      due("", text(s));
    });
    edge("no word is what later bits begin with", () -> {
      Shortsign s = written("ccdd", "abaa");
      s.turn(4);
      s.turn(5);
      due(2, s.read(0));
      due("ab", text(s));
    });
    edge("the bits that are left end within a word", () -> {
      Shortsign s = bits("0011");
      retype(s, "bcdd");
      s.byLengths();
      due(2, s.read(1));
      due("aa", text(s));
    });
    edge("no bits are left, but signs", () -> {
      Shortsign s = bits("0011");
      retype(s, "bcc");
      s.byLengths();
      due(3, s.read(1));
      due("aac", text(s));
    });
    edge("120 signs of the longest word", () -> {
      Shortsign s = written(LENGTHS, "zy".repeat(60));
      s.wipe();
      due(120, s.read(0));
      due("zy".repeat(60), text(s));
    });
    edge("the longest word, one bit turned", () -> {
      Shortsign s = written(LENGTHS, "zz");
      due(0, s.turn(49));
      due(2, s.read(0));
      due("zy", text(s));
    });
    edge("they take the place of a longer typed row, of a shorter one", () -> {
      Shortsign s = written("bcc", "cab");
      retype(s, FULL);
      due(3, s.read(0));
      due("cab", text(s));
      s.wipe();
      due(3, s.read(0));
      due("cab", text(s));
    });
    edge("the stream and what is kept of it stay", () -> {
      Shortsign s = fours("00001111");
      retype(s, "d");
      s.byLengths();
      due(1, s.read(1));
      due(2, s.written());
      due("00001111", stream(s));
      due(2, s.read(0));
    });
    edge("IndexOutOfBoundsException if there is no such code", () -> refusesOtherCodes(Shortsign::read));
    edge("UnsupportedOperationException if it is a code with triples", () -> {
      refuses(UNSUPPORTED, Checks::twoCodes, s -> s.read(1));
      refuses(UNSUPPORTED, () -> {
        Shortsign s = typing("abc");
        s.take();
        s.triple();
        return s;
      }, s -> s.read(0));
    });
  }

  private static int grown(String signs) {
    return typing(signs).writeGrowing();
  }

  static void writeGrowing() {
    tested = "promise 37";
    edge("nothing is typed: no bits", () -> {
      Shortsign s = written("bcc", "abc");
      s.wipe();
      due(0, s.writeGrowing());
      due("", stream(s));
      due(0, s.written());
    });
    edge("the first sign: the empty word of the mark, and the number", () -> {
      Shortsign a = typing("a");
      due(5, a.writeGrowing());
      due("00000", stream(a));
      Shortsign z = typing("z");
      due(5, z.writeGrowing());
      due("11001", stream(z));
    });
    edge("the mark counts as a sign behind z", () -> {
      Shortsign s = typing("zzza");
      s.writeGrowing();
      due("1100100" + "100000", stream(s));
    });
    edge("of like ones a and z are joined ahead of the mark", () -> {
      Shortsign s = typing("aza");
      s.writeGrowing();
      due("00000" + "111001" + "10", stream(s));
    });
    edge("in place of what was there, and begun anew", () -> {
      Shortsign s = typing("zz");
      s.writeGrowing();
      due(6, s.writeGrowing());
      due("110010", stream(s));
      due(2, s.written());
    });
    edge("all counts together are 40: none is halved", () -> {
      due(57, grown("a".repeat(35) + "bbcc"));
      due(57 + 2, grown("a".repeat(35) + "bbccc"));
    });
    edge("all counts together are more than 40: each is halved", () -> {
      due(58, grown("a".repeat(36) + "bbcc"));
      due(58 + 3, grown("a".repeat(36) + "bbccc"));
    });
    edge("each is halved: that of a as well", () -> {
      due(58, grown("z".repeat(36) + "aabb"));
      due(58 + 3, grown("z".repeat(36) + "aabba"));
    });
    edge("halved, rounded up: 3 becomes 2", () -> {
      due(59, grown("a".repeat(35) + "bbbcc"));
      due(59 + 2, grown("a".repeat(35) + "bbbccb"));
    });
    edge("halved, rounded up: a count of 1 stays, the mark's too", () -> {
      due(5 + 38 + 6, grown("a".repeat(39) + "b"));
      due(5 + 38 + 6 + 2, grown("a".repeat(39) + "bb"));
      due(5 + 39 + 6, grown("a".repeat(40) + "b"));
    });
    edge("those that are 0 stay so", () -> {
      Shortsign s = typing("a".repeat(40) + "b");
      s.writeGrowing();
      due("100001", stream(s).substring(44));
    });
    edge("120 signs", () -> {
      due(5 + 119, grown("z".repeat(120)));
      Shortsign s = typing(FULL);
      int bits = s.writeGrowing();
      due(bits, s.streamBits());
      due(120, s.written());
      s.wipe();
      due(120, s.readGrowing());
      due(FULL, text(s));
    });
    edge("the typed row, the counts and the codes stay", () -> {
      Shortsign s = written("bcc", "abc");
      s.set('q', 7);
      s.writeGrowing();
      due("abc", text(s));
      due(7, s.clear());
      due("a0 b10 c11", words(s, 0));
    });
  }

  private static void reads(String signs, Shortsign s) {
    int written = s.written();
    int bits = s.streamBits();
    due(signs.length(), s.readGrowing());
    due(signs, text(s));
    due(written, s.written());
    due(bits, s.streamBits());
  }

  static void readGrowing() {
    tested = "promise 38";
    edge("nothing was written: no signs, and the typed row becomes empty", () -> reads("", typing("abc")));
    edge("signs were written, but no bits", () -> reads("", emptyWord("aaa")));
    edge("till as many signs were read as were written: bits are left", () -> {
      reads("aa", fours("00000000"));
      reads("z", oneSignBegunByNumber25());
    });
    edge("the bits that are left begin with no word: none are left", () -> reads("a", bits("00000")));
    edge("the bits that are left begin with no word: they end within one", () -> reads("az", bits("00000" + "111001" + "1")));
    edge("just enough are left behind the word of the mark", () -> {
      reads("a", bits("00000"));
      reads("aa", bits("00000" + "100000"));
    });
    edge("too few are left behind the word of the mark: four", () -> {
      reads("", bits("0000"));
      reads("a", bits("00000" + "10000"));
    });
    edge("too few are left behind the word of the mark: none", () -> reads("a", bits("00000" + "1")));
    edge("they tell 25", () -> {
      reads("z", bits("11001"));
      reads("az", bits("00000" + "111001"));
    });
    edge("they tell a number above 25: 26", () -> {
      reads("", bits("11010"));
      reads("a", bits("00000" + "111010"));
    });
    edge("they tell a number above 25: 31", () -> {
      reads("", bits("11111"));
      reads("a", bits("00000" + "111111"));
    });
    edge("a sign told behind the mark that has a count already counts as any", () ->
        reads("aabb", bits("00000" + "100000" + "100001" + "10")));
    edge("begun anew each time", () -> {
      Shortsign s = typing("abacadabra");
      s.writeGrowing();
      reads("abacadabra", s);
      reads("abacadabra", s);
    });
    edge("they take the place of a longer typed row", () -> {
      Shortsign s = bits("00000");
      retype(s, FULL);
      reads("a", s);
    });
    edge("halved at the same sign as in writing", () -> {
      String signs = "a".repeat(36) + "bbccc" + "a".repeat(40) + "zyx" + "c".repeat(36);
      Shortsign s = typing(signs);
      s.writeGrowing();
      s.wipe();
      reads(signs, s);
    });
  }

  /** 11001 and twenty bits more, written as one sign. */
  private static Shortsign oneSignBegunByNumber25() {
    Shortsign s = written("z", "a");
    s.turn(0);
    s.turn(1);
    s.turn(4);
    return s;
  }

  static void streamBits() {
    tested = "promise 39";
    edge("none", () -> due(0, new Shortsign().streamBits()));
    edge("one", () -> due(1, bits("1").streamBits()));
    edge("the most", () -> due(3000, written(LENGTHS, "z".repeat(120)).streamBits()));
    tested = "promise 40";
    edge("none", () -> due(0, new Shortsign().written()));
    edge("120", () -> due(120, written("bb", "b".repeat(120)).written()));
    edge("typing, wiping, turning and reading leave it", () -> {
      Shortsign s = written("bcc", "abc");
      s.wipe();
      s.type('z');
      s.turn(0);
      s.read(0);
      s.readGrowing();
      s.forget();
      due(3, s.written());
    });
  }

  static void bitAt() {
    tested = "promise 41";
    edge("the first place, the last place", () -> {
      due(1, bits("1000").bitAt(0));
      due(1, bits("0001").bitAt(3));
      due(0, bits("1110").bitAt(3));
      due(1, written(LENGTHS, "z".repeat(120)).bitAt(2999));
    });
    edge("IndexOutOfBoundsException if there is no such place", () -> {
      for (int no : new int[] {-1, 4, 5, 8, 3000, LOWEST, HIGHEST}) refuses(INDEX, () -> bits("1001"), s -> s.bitAt(no));
      for (int no : new int[] {-1, 3000}) refuses(INDEX, () -> written(LENGTHS, "z".repeat(120)), s -> s.bitAt(no));
    });
    edge("an empty stream has no place", () -> {
      for (int no : new int[] {-1, 0, 1}) refuses(INDEX, () -> emptyWord("aaa"), s -> s.bitAt(no));
    });
    edge("no place where a longer stream was", () -> {
      Shortsign s = bits("1111");
      retype(s, "b");
      s.write(0);
      refused(INDEX, s, () -> s.bitAt(1));
    });
    tested = "promise 42";
    edge("the first place, the last place", () -> {
      Shortsign s = bits("1000");
      due(0, s.turn(0));
      due(1, s.turn(3));
      due("0001", stream(s));
    });
    edge("turned twice, it is as it was", () -> {
      Shortsign s = bits("10");
      due(0, s.turn(0));
      due(1, s.turn(0));
      due(1, s.turn(1));
      due(0, s.turn(1));
      due("10", stream(s));
    });
    edge("the last place of the longest stream", () -> {
      Shortsign s = written(LENGTHS, "z".repeat(120));
      due(0, s.turn(2999));
      due(1, s.bitAt(2998));
    });
    edge("IndexOutOfBoundsException if there is no such place", () -> {
      for (int no : new int[] {-1, 4, 5, 8, 3000, LOWEST, HIGHEST}) refuses(INDEX, () -> bits("1001"), s -> s.turn(no));
      for (int no : new int[] {-1, 3000}) refuses(INDEX, () -> written(LENGTHS, "z".repeat(120)), s -> s.turn(no));
    });
    edge("an empty stream has no place", () -> {
      for (int no : new int[] {-1, 0, 1}) refuses(INDEX, Shortsign::new, s -> s.turn(no));
    });
  }

  static void byteAt() {
    tested = "promise 43";
    edge("one bit: 0 behind, the first one the highest", () -> {
      due(128, bits("1").byteAt(0));
      due(0, bits("0").byteAt(0));
    });
    edge("seven bits", () -> due(254, bits("1111111").byteAt(0)));
    edge("eight bits: just full", () -> {
      due(255, bits("11111111").byteAt(0));
      due(1, bits("00000001").byteAt(0));
      refuses(INDEX, () -> bits("11111111"), s -> s.byteAt(1));
    });
    edge("nine bits: two bytes", () -> {
      due(128, bits("000000001").byteAt(1));
      due(0, bits("000000001").byteAt(0));
      refuses(INDEX, () -> bits("000000001"), s -> s.byteAt(2));
    });
    edge("0 behind, where a longer stream had others", () -> {
      Shortsign s = bits("1".repeat(16));
      retype(s, "b".repeat(9));
      s.write(0);
      due(128, s.byteAt(1));
    });
    edge("the last byte of the longest stream", () -> {
      due(255, written(LENGTHS, "z".repeat(120)).byteAt(374));
      for (int no : new int[] {-1, 375}) refuses(INDEX, () -> written(LENGTHS, "z".repeat(120)), s -> s.byteAt(no));
    });
    edge("IndexOutOfBoundsException if there is no such byte", () -> {
      for (int no : new int[] {-1, 1, 2, 8, LOWEST, HIGHEST, 1 << 28, 1 << 29}) refuses(INDEX, () -> bits("1001"), s -> s.byteAt(no));
    });
    edge("an empty stream has no byte", () -> {
      for (int no : new int[] {-1, 0, 1}) refuses(INDEX, () -> emptyWord("aaa"), s -> s.byteAt(no));
    });
  }

  private static int stepOf(String signs, int place) {
    return written("bcc", signs).inStep(0, place);
  }

  static void inStep() {
    tested = "promise 44";
    edge("more than the place: the least such number", () -> {
      for (int place = 0; place < 5; place++) due(place + 1, bits("01101").inStep(0, place));
    });
    edge("a word that ends just at the place is not looked for", () -> due(-1, stepOf("ac", 1)));
    edge("all bits of the stream: the greatest number", () -> {
      due(2, stepOf("c", 1));
      due(4, stepOf("bc", 3));
    });
    edge("-1 if there is none", () -> {
      due(-1, stepOf("c", 0));
      due(-1, stepOf("baca", 5));
      due(-1, stepOf("a", 0));
    });
    edge("a word ends in one of both only", () -> {
      due(2, stepOf("baca", 0));
      due(6, stepOf("baca", 2));
      due(6, stepOf("baca", 3));
    });
    edge("as long as there are words: not ahead of the place", () -> {
      Shortsign s = written("ccdd", "aaaa");
      s.turn(0);
      s.turn(1);
      due(-1, s.inStep(0, 6));
      due(-1, s.inStep(0, 0));
    });
    edge("as long as there are words: none as it would be read then", () -> {
      due(-1, written("ccdd", "c").inStep(0, 0));
      due(-1, written("ccdd", "c").inStep(0, 1));
      due(-1, written("ccdd", "cb").inStep(0, 0));
    });
    edge("as long as there are words: not behind the place", () -> {
      Shortsign s = written("ccdd", "aaaa");
      s.turn(6);
      s.turn(7);
      due(2, s.inStep(0, 1));
      due(6, s.inStep(0, 5));
      due(-1, s.inStep(0, 6));
      due(-1, s.inStep(0, 7));
    });
    edge("however many signs were written", () -> {
      Shortsign s = written("e", "a");
      retype(s, "bb");
      s.byLengths();
      due(1, s.inStep(1, 0));
      due(4, s.inStep(1, 3));
    });
    edge("the longest stream", () -> {
      Shortsign s = written(LENGTHS, "z".repeat(120));
      due(25, s.inStep(0, 24));
      due(3000, s.inStep(0, 2999));
      due(-1, s.inStep(0, 2975));
    });
    edge("the stream stays", () -> {
      Shortsign s = written("bcc", "baca");
      s.inStep(0, 0);
      due("100110", stream(s));
    });
    edge("IndexOutOfBoundsException if there is no such code", () -> refusesOtherCodes((s, code) -> s.inStep(code, 0)));
    edge("or place", () -> {
      for (int no : new int[] {-1, 6, 7, 3000, LOWEST, HIGHEST}) refuses(INDEX, Checks::twoCodes, s -> s.inStep(0, no));
    });
    edge("an empty stream has no place", () -> {
      for (int no : new int[] {-1, 0}) refuses(INDEX, () -> byLengths("bcc", "abc"), s -> s.inStep(0, no));
    });
    edge("UnsupportedOperationException if it is a code with triples", () ->
        refuses(UNSUPPORTED, StreamEdgesTest::threeCodes, s -> s.inStep(1, 0)));
    edge("or has the empty word", () -> refuses(UNSUPPORTED, StreamEdgesTest::threeCodes, s -> s.inStep(2, 5)));
    edge("no such place, and triples or the empty word", () -> {
      for (int no : new int[] {-1, 6}) {
        refuses(INDEX, StreamEdgesTest::threeCodes, s -> s.inStep(1, no));
        refuses(INDEX, StreamEdgesTest::threeCodes, s -> s.inStep(2, no));
      }
      refuses(INDEX, () -> emptyWord("aaa"), s -> s.inStep(0, 0));
    });
  }

  /** With the word 0 alone, no turned bit is read; each place is lost. */
  private static int lostOf(int bits, int from) {
    return written("b", "a".repeat(bits)).lost(0, from);
  }

  static void lost() {
    tested = "promise 45";
    edge("as far as there are: fewer than 32", () -> {
      due(1, lostOf(1, 0));
      due(31, lostOf(31, 0));
      due(31, lostOf(33, 2));
    });
    edge("just 32", () -> {
      due(32, lostOf(32, 0));
      due(32, lostOf(33, 1));
    });
    edge("more than 32", () -> {
      due(32, lostOf(33, 0));
      due(32, lostOf(120, 0));
      due(32, lostOf(120, 87));
    });
    edge("the last place", () -> {
      due(1, lostOf(33, 32));
      due(1, lostOf(120, 119));
    });
    edge("the 32nd place is counted, the 33rd is not", () -> {
      due(1, written("bcc", "a".repeat(32)).lost(0, 0));
      due(0, written("bcc", "a".repeat(33)).lost(0, 0));
      due(1, written("bcc", "a".repeat(33)).lost(0, 1));
    });
    edge("none is lost", () -> due(0, bits("0110".repeat(10)).lost(0, 0)));
    edge("the longest stream", () -> {
      due(32, written("z", "a".repeat(120)).lost(0, 0));
      due(1, written("z", "a".repeat(120)).lost(0, 2999));
    });
    edge("the stream stays", () -> {
      Shortsign s = written("bcc", "baca");
      due(1, s.lost(0, 0));
      due("100110", stream(s));
    });
    edge("IndexOutOfBoundsException if there is no such code", () -> refusesOtherCodes((s, code) -> s.lost(code, 0)));
    edge("or place", () -> {
      for (int no : new int[] {-1, 6, 7, 3000, LOWEST, HIGHEST - 31, HIGHEST}) refuses(INDEX, Checks::twoCodes, s -> s.lost(0, no));
    });
    edge("an empty stream has no place", () -> {
      for (int no : new int[] {-1, 0}) refuses(INDEX, () -> byLengths("bcc", "abc"), s -> s.lost(0, no));
    });
    edge("UnsupportedOperationException if it is a code with triples", () ->
        refuses(UNSUPPORTED, StreamEdgesTest::threeCodes, s -> s.lost(1, 0)));
    edge("or has the empty word", () -> refuses(UNSUPPORTED, StreamEdgesTest::threeCodes, s -> s.lost(2, 5)));
    edge("no such place, and triples or the empty word", () -> {
      for (int no : new int[] {-1, 6}) {
        refuses(INDEX, StreamEdgesTest::threeCodes, s -> s.lost(1, no));
        refuses(INDEX, StreamEdgesTest::threeCodes, s -> s.lost(2, no));
      }
      refuses(INDEX, () -> emptyWord("aaa"), s -> s.lost(0, 0));
    });
  }

  public static void main(String[] args) {
    write();
    read();
    writeGrowing();
    readGrowing();
    streamBits();
    bitAt();
    byteAt();
    inStep();
    lost();
    end("");
  }
}
