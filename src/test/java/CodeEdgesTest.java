import java.util.Arrays;

/** The edges of promises 11 to 26: codes. */
public final class CodeEdgesTest extends Checks {
  private static final String LENGTHS = "bcdefghijklmnopqrstuvwxyz";
  private static final int[] STEEP = {
    1, 1, 2, 3, 5, 8, 13, 21, 34, 55, 89, 144, 233, 377, 610, 987, 1597, 2584, 4181, 6765
  };

  private static Shortsign twelveOf(int... counts) {
    Shortsign s = counting(counts);
    for (int code = 0; code < 12; code++) s.least();
    return s;
  }

  private static Shortsign twelveTyping(String signs) {
    Shortsign s = twelve();
    type(s, signs);
    return s;
  }

  private static Shortsign eleven() {
    Shortsign s = counting(1, 2);
    for (int code = 0; code < 11; code++) due(code, s.least());
    type(s, "bb");
    return s;
  }

  private static void leastOf(String words, int... counts) {
    Shortsign s = counting(counts);
    s.least();
    due(words, words(s, 0));
  }

  private static void boundedOf(int bound, String words, int... counts) {
    Shortsign s = counting(counts);
    s.bounded(bound);
    due(words, words(s, 0));
  }

  private static void orderedOf(String words, int... counts) {
    Shortsign s = counting(counts);
    s.ordered();
    due(words, words(s, 0));
  }

  private static void tripleOf(String words, int... counts) {
    Shortsign s = counting(counts);
    s.triple();
    due(words, words(s, 0));
  }

  static void least() {
    tested = "promise 11";
    edge("its number, from 0", () -> due(0, counting(1).least()));
    edge("one sign has the empty word", () -> {
      leastOf("a", 1);
      leastOf("c", 0, 0, 9999);
    });
    edge("two signs have a bit each", () -> leastOf("a0 b1", 9999, 1));
    edge("words for those with a count above 0", () -> leastOf("b0 d1", 0, 1, 0, 1, 0));
    edge("all 26 signs of the same count", () -> {
      Shortsign s = countingAlike(26, 9999);
      s.least();
      due("01100", word(s, 0, 'a'));
      due("11111", word(s, 0, 't'));
      due("0000", word(s, 0, 'u'));
      due("0101", word(s, 0, 'z'));
      due(1239876, s.bits(0));
    });
    edge("the steepest counts", () -> {
      Shortsign s = counting(STEEP);
      s.least();
      due("1".repeat(18) + "0", word(s, 0, 'a'));
      due("1".repeat(19), word(s, 0, 'b'));
      due("0", word(s, 0, 't'));
    });
    edge("of like ones that of the lowest number: of single trees", () -> leastOf("a10 b11 c0", 1, 1, 1));
    edge("of like ones that of the lowest number: a single one", () -> leastOf("a00 b01 c10 d11", 1, 1, 2, 2));
    edge("of like ones that of the lowest number: of joined ones", () -> leastOf("a110 b111 c00 d01 e10", 1, 1, 1, 1, 2));
    edge("it has its words for the counts as it is made", () -> {
      Shortsign s = counting(1, 1);
      s.least();
      s.set('a', 0);
      s.set('c', 9999);
      due("a0 b1", words(s, 0));
    });
    edge("NoSuchElementException if no count is above 0", () -> {
      refuses(NONE, Shortsign::new, Shortsign::least);
      refuses(NONE, () -> typing("abc"), Shortsign::least);
    });
    edge("at most 12 codes: the last one", () -> due(11, eleven().least()));
    edge("IllegalStateException if there are 12 codes", () -> refuses(STATE, Checks::twelve, Shortsign::least));
    edge("no count is above 0, and there are 12 codes", () -> refuses(NONE, CodeEdgesTest::twelveUncounted, Shortsign::least));
  }

  private static Shortsign twelveUncounted() {
    Shortsign s = twelve();
    s.clear();
    return s;
  }

  static void bounded() {
    tested = "promise 12";
    edge("its number, from 0", () -> due(0, counting(1).bounded(1)));
    edge("bound: 1 is the least", () -> boundedOf(1, "a0 b1", 9999, 1));
    edge("bound: 25 is the greatest", () -> {
      boundedOf(25, "a1110 b1111 c100 d101 e110 f0", 5, 9, 12, 13, 16, 45);
      Shortsign s = counting(STEEP);
      s.bounded(25);
      due(19, s.longest(0));
    });
    edge("IllegalArgumentException if the bound is out of range", () -> {
      for (int no : new int[] {0, 26, -1, 32, 33, LOWEST, HIGHEST}) refuses(ARGUMENT, () -> counting(1, 2), s -> s.bounded(no));
    });
    edge("one sign has the empty word, by each bound", () -> {
      boundedOf(1, "b", 0, 3);
      boundedOf(25, "b", 0, 3);
    });
    edge("just as many signs as 2 to the power of the bound", () -> {
      boundedOf(2, "a00 b01 c10 d11", 1, 2, 4, 8);
      for (int bound = 1; bound <= 4; bound++) {
        Shortsign s = counting(Arrays.copyOf(STEEP, 1 << bound));
        s.bounded(bound);
        for (int sign = 0; sign < 1 << bound; sign++) due(bound, s.wordLength(0, (char) ('a' + sign)));
      }
    });
    edge("UnsupportedOperationException if more signs have a count above 0", () -> {
      for (int bound = 1; bound <= 4; bound++) {
        int no = bound;
        refuses(UNSUPPORTED, () -> countingAlike((1 << no) + 1, 7), s -> s.bounded(no));
        refuses(UNSUPPORTED, () -> countingAlike(26, 7), s -> s.bounded(no));
      }
    });
    edge("all 26 signs by the least bound that can be", () -> {
      Shortsign s = countingAlike(26, 9999);
      s.bounded(5);
      due("01100", word(s, 0, 'a'));
      due("0000", word(s, 0, 'u'));
      due(1L << 25, s.sum(0));
    });
    edge("the bound is the greatest length", () -> {
      boundedOf(3, "a100 b101 c110 d111 e00 f01", 5, 9, 12, 13, 16, 45);
      Shortsign s = counting(STEEP);
      s.bounded(5);
      due(5, s.longest(0));
      s.bounded(18);
      due(18, s.longest(1));
      s.bounded(19);
      due(19, s.longest(2));
    });
    edge("one that is left over being let go", () -> boundedOf(2, "a10 b11 c0", 1, 2, 2));
    edge("by twos from the first one on, the weight of both", () -> boundedOf(3, "a110 b111 c00 d01 e10", 1, 1, 2, 2, 4));
    edge("of like ones coins ahead of packages", () -> boundedOf(3, "a00 b01 c10 d11", 1, 1, 2, 2));
    edge("coins by rising signs", () -> boundedOf(2, "a10 b11 c0", 1, 1, 1));
    edge("packages as they were taken", () -> boundedOf(3, "a110 b111 c00 d01 e10", 1, 1, 1, 1, 1));
    edge("NoSuchElementException if no count is above 0", () -> {
      refuses(NONE, Shortsign::new, s -> s.bounded(1));
      refuses(NONE, Shortsign::new, s -> s.bounded(25));
    });
    edge("at most 12 codes: the last one", () -> due(11, eleven().bounded(1)));
    edge("IllegalStateException if there are 12 codes", () -> refuses(STATE, Checks::twelve, s -> s.bounded(1)));
    edge("the bound out of range, and no count is above 0", () -> {
      refuses(ARGUMENT, Shortsign::new, s -> s.bounded(0));
      refuses(ARGUMENT, Shortsign::new, s -> s.bounded(26));
    });
    edge("the bound out of range, and more signs", () -> refuses(ARGUMENT, () -> countingAlike(26, 1), s -> s.bounded(0)));
    edge("the bound out of range, and 12 codes", () -> refuses(ARGUMENT, Checks::twelve, s -> s.bounded(26)));
    edge("no count is above 0, and 12 codes", () -> refuses(NONE, CodeEdgesTest::twelveUncounted, s -> s.bounded(1)));
    edge("more signs, and 12 codes", () -> refuses(UNSUPPORTED, () -> twelveOf(1, 1, 1), s -> s.bounded(1)));
  }

  static void ordered() {
    tested = "promise 13";
    edge("its number, from 0", () -> due(0, counting(1).ordered()));
    edge("one sign has the empty word", () -> {
      orderedOf("a", 1);
      orderedOf("b", 0, 9999);
    });
    edge("two signs have a bit each", () -> orderedOf("a0 c1", 9999, 0, 1));
    edge("a tree that has none behind", () -> orderedOf("a0 b10 c110 d111", 8, 4, 2, 1));
    edge("one behind that weighs no less than the one ahead", () -> orderedOf("a00 b01 c1", 1, 1, 1));
    edge("to the beginning of the row, if there is none", () -> {
      orderedOf("a000 b001 c01 d1", 1, 2, 4, 8);
      orderedOf("a00 b01 c10 d11", 2, 2, 1, 2);
    });
    edge("just behind the last one that weighs no less", () -> {
      orderedOf("a0 b100 c101 d11", 9, 1, 1, 3);
      orderedOf("a00 b01 c10 d11", 2, 3, 1, 2);
    });
    edge("just behind one that weighs as much", () -> orderedOf("a0 b100 c101 d11", 2, 1, 1, 1));
    edge("a tree of the weight of both", () -> orderedOf("a000 b001 c01 d1", 1, 2, 1, 3));
    edge("as it is longer, as it is shorter", () -> orderedOf("a0 b1000 c1001 d101 e11", 20, 1, 1, 3, 6));
    edge("all 26 signs of the same count", () -> {
      Shortsign s = countingAlike(26, 9999);
      s.ordered();
      due("00000", word(s, 0, 'a'));
      due("01111", word(s, 0, 'p'));
      due("1000", word(s, 0, 'q'));
      due("1011", word(s, 0, 't'));
      due("11000", word(s, 0, 'u'));
      due("11011", word(s, 0, 'x'));
      due("1110", word(s, 0, 'y'));
      due("1111", word(s, 0, 'z'));
    });
    edge("the steepest counts", () -> {
      Shortsign s = counting(STEEP);
      s.ordered();
      due("0".repeat(19), word(s, 0, 'a'));
      due("0".repeat(18) + "1", word(s, 0, 'b'));
      due("1", word(s, 0, 't'));
    });
    edge("NoSuchElementException if no count is above 0", () -> refuses(NONE, Shortsign::new, Shortsign::ordered));
    edge("at most 12 codes: the last one", () -> due(11, eleven().ordered()));
    edge("IllegalStateException if there are 12 codes", () -> refuses(STATE, Checks::twelve, Shortsign::ordered));
    edge("no count is above 0, and 12 codes", () -> refuses(NONE, CodeEdgesTest::twelveUncounted, Shortsign::ordered));
  }

  static void triple() {
    tested = "promise 14";
    edge("its number, from 0", () -> due(0, counting(1).triple()));
    edge("one sign has the empty word", () -> {
      tripleOf("a", 1);
      tripleOf("c", 0, 0, 9999);
    });
    edge("two signs: an even number, with a tree without a sign", () -> tripleOf("a0 b1", 9999, 1));
    edge("three signs: an odd number, without", () -> tripleOf("a0 b1 c2", 9999, 1, 1));
    edge("four signs: the tree without a sign is joined first", () -> tripleOf("a20 b21 c0 d1", 1, 2, 3, 4));
    edge("five signs", () -> tripleOf("a20 b21 c22 d0 e1", 1, 1, 1, 5, 5));
    edge("signs without a count are no signs of it", () -> tripleOf("a0 c1", 1, 0, 1, 0));
    edge("of like ones that of the lowest number: of single trees", () -> tripleOf("a20 b21 c0 d1", 1, 1, 1, 1));
    edge("of like ones that of the lowest number: a single one", () ->
        tripleOf("a10 b11 c12 d20 e21 f22 g0", 1, 1, 1, 3, 3, 3, 9));
    edge("25 signs of the same count", () -> {
      Shortsign s = countingAlike(25, 9999);
      s.triple();
      due("00", word(s, 0, 'y'));
      due("010", word(s, 0, 'a'));
      due("222", word(s, 0, 'x'));
    });
    edge("26 signs of the same count", () -> {
      Shortsign s = countingAlike(26, 9999);
      s.triple();
      due("000", word(s, 0, 'a'));
      due("221", word(s, 0, 'z'));
    });
    edge("the steepest counts", () -> {
      Shortsign s = counting(STEEP);
      s.triple();
      due("2".repeat(9) + "0", word(s, 0, 'a'));
      due("2".repeat(9) + "1", word(s, 0, 'b'));
      due("1", word(s, 0, 't'));
    });
    edge("NoSuchElementException if no count is above 0", () -> refuses(NONE, Shortsign::new, Shortsign::triple));
    edge("at most 12 codes: the last one", () -> due(11, eleven().triple()));
    edge("IllegalStateException if there are 12 codes", () -> refuses(STATE, Checks::twelve, Shortsign::triple));
    edge("no count is above 0, and 12 codes", () -> refuses(NONE, CodeEdgesTest::twelveUncounted, Shortsign::triple));
  }

  static void byLengths() {
    tested = "promise 15";
    edge("its number, from 0", () -> due(0, typing("b").byLengths()));
    edge("one sign typed", () -> due("a0", words(byLengths("b", ""), 0)));
    edge("a sign of the length 0 has no word", () -> due("a0 c1", words(byLengths("bab", ""), 0)));
    edge("nor one beyond the typed row", () -> due("a0 b1", words(byLengths("bb", ""), 0)));
    edge("by rising lengths, of like ones by rising signs", () -> due("a10 b0 c11", words(byLengths("cbc", ""), 0)));
    edge("the greatest length, of the last sign", () ->
        due("z" + "0".repeat(25), words(byLengths("a".repeat(25) + "z", ""), 0)));
    edge("26 are typed, and all added up is just 1", () -> {
      Shortsign s = byLengths(LENGTHS + "z", "");
      due("0", word(s, 0, 'a'));
      due("1".repeat(24) + "0", word(s, 0, 'y'));
      due("1".repeat(25), word(s, 0, 'z'));
      due(1L << 25, s.sum(0));
    });
    edge("the least more than 1", () ->
        refuses(UNSUPPORTED, () -> typing(LENGTHS.substring(0, 24) + "yz"), Shortsign::byLengths));
    edge("the least less than 1", () -> due((1L << 25) - 1, byLengths(LENGTHS, "").sum(0)));
    edge("far more than 1", () -> refuses(UNSUPPORTED, () -> typing("b".repeat(26)), Shortsign::byLengths));
    edge("three of one bit", () -> refuses(UNSUPPORTED, () -> typing("bbb"), Shortsign::byLengths));
    edge("the typed row stays, and the counts are not looked at", () -> {
      Shortsign s = typing("cbc");
      s.set('z', 9999);
      s.byLengths();
      due("cbc", text(s));
      due(3, s.signs(0));
    });
    edge("IllegalArgumentException if more than 26 are typed", () -> {
      refuses(ARGUMENT, () -> typing("a".repeat(26) + "b"), Shortsign::byLengths);
      refuses(ARGUMENT, () -> typing("z".repeat(27)), Shortsign::byLengths);
      refuses(ARGUMENT, () -> typing("z".repeat(120)), Shortsign::byLengths);
    });
    edge("NoSuchElementException if no length is above 0", () -> {
      refuses(NONE, Shortsign::new, Shortsign::byLengths);
      refuses(NONE, () -> typing("a"), Shortsign::byLengths);
      refuses(NONE, () -> typing("a".repeat(26)), Shortsign::byLengths);
    });
    edge("at most 12 codes: the last one", () -> due(11, eleven().byLengths()));
    edge("IllegalStateException if there are 12 codes", () -> refuses(STATE, () -> twelveTyping("b"), Shortsign::byLengths));
    edge("more than 26 are typed, and no length is above 0", () ->
        refuses(ARGUMENT, () -> typing("a".repeat(27)), Shortsign::byLengths));
    edge("more than 26 are typed, and more than 1", () ->
        refuses(ARGUMENT, () -> typing("b".repeat(27)), Shortsign::byLengths));
    edge("more than 26 are typed, and 12 codes", () ->
        refuses(ARGUMENT, () -> twelveTyping("z".repeat(27)), Shortsign::byLengths));
    edge("no length is above 0, and 12 codes", () -> {
      refuses(NONE, Checks::twelve, Shortsign::byLengths);
      refuses(NONE, () -> twelveTyping("aa"), Shortsign::byLengths);
    });
    edge("more than 1, and 12 codes", () -> refuses(UNSUPPORTED, () -> twelveTyping("bbb"), Shortsign::byLengths));
  }

  static void forgetAndCodes() {
    tested = "promise 16";
    edge("how many they were: none", () -> due(0, new Shortsign().forget()));
    edge("how many they were: 12", () -> due(12, twelve().forget()));
    edge("drops all codes", () -> {
      Shortsign s = twelve();
      s.forget();
      due(0, s.codes());
      due(0, s.forget());
      refused(INDEX, s, () -> s.kindOf(0));
    });
    edge("numbered from 0 again, and 12 once more", () -> {
      Shortsign s = twelve();
      s.forget();
      for (int code = 0; code < 12; code++) due(code, s.ordered());
      refused(STATE, s, s::ordered);
      due('o', s.kindOf(0));
    });
    edge("counts, the typed row and the stream stay", () -> {
      Shortsign s = twoCodes();
      due(2, s.forget());
      due(2, s.count('a'));
      due("abca", text(s));
      due("010110", stream(s));
      due(4, s.written());
    });
    tested = "promise 17";
    edge("none", () -> due(0, new Shortsign().codes()));
    edge("one more with each, up to 12", () -> {
      Shortsign s = counting(1);
      for (int codes = 1; codes <= 12; codes++) {
        s.least();
        due(codes, s.codes());
      }
    });
  }

  static void kindOf() {
    tested = "promise 18";
    edge("each kind, at each place", () -> {
      Shortsign s = eleven();
      s.forget();
      s.byLengths();
      s.triple();
      s.ordered();
      s.bounded(1);
      s.least();
      for (int code = 5; code < 12; code++) s.triple();
      due("ktobh", "" + s.kindOf(0) + s.kindOf(1) + s.kindOf(2) + s.kindOf(3) + s.kindOf(4));
      due('t', s.kindOf(11));
    });
    edge("IndexOutOfBoundsException if there is no such code", () -> refusesOtherCodes(Shortsign::kindOf));
    tested = "promise 19";
    edge("one, with the empty word", () -> due(1, twelve().signs(11)));
    edge("26", () -> {
      Shortsign s = countingAlike(26, 1);
      s.triple();
      due(26, s.signs(0));
    });
    edge("IndexOutOfBoundsException if there is no such code", () -> refusesOtherCodes(Shortsign::signs));
  }

  private static String order(Shortsign s, int code) {
    StringBuilder order = new StringBuilder();
    int signs = s.signs(code);
    for (int rank = 0; rank < signs; rank++) order.append(s.signAt(code, rank));
    return order.toString();
  }

  static void signAt() {
    tested = "promise 20";
    edge("rank: from 0, the empty word", () -> due('a', twelve().signAt(11, 0)));
    edge("the last rank", () -> {
      due('z', byLengths(LENGTHS + "z", "").signAt(0, 25));
      due('b', byLengths("dc", "").signAt(0, 0));
      due('a', byLengths("dc", "").signAt(0, 1));
    });
    edge("all 26, each kind", () -> {
      Shortsign s = countingAlike(26, 5);
      s.least();
      s.ordered();
      s.triple();
      due("uvwxyzabcdefghijklmnopqrst", order(s, 0));
      due("abcdefghijklmnopqrstuvwxyz", order(s, 1));
      due("abcdefghijklmnopqrstuvwxyz", order(s, 2));
    });
    edge("signs without a word have no rank", () -> {
      due("bc", order(byLengths("abb", ""), 0));
      due("ca", order(byLengths("dab", ""), 0));
      Shortsign s = counting(0, 1, 0, 1);
      s.ordered();
      due("bd", order(s, 0));
    });
    edge("words of other lengths, read as texts", () -> {
      Shortsign s = counting(1, 2, 3, 4);
      s.triple();
      due("cdab", order(s, 0));
      due("bac", order(byLengths("cbc", ""), 0));
    });
    edge("IndexOutOfBoundsException if there is no such rank", () -> {
      for (int no : new int[] {-1, 3, 4, 25, 26, LOWEST, HIGHEST}) refuses(INDEX, Checks::twoCodes, s -> s.signAt(0, no));
      for (int no : new int[] {-1, 1}) refuses(INDEX, Checks::twelve, s -> s.signAt(11, no));
      for (int no : new int[] {-1, 26, 27}) refuses(INDEX, () -> byLengths(LENGTHS + "z", ""), s -> s.signAt(0, no));
    });
    edge("IndexOutOfBoundsException if there is no such code", () -> refusesOtherCodes((s, code) -> s.signAt(code, 0)));
  }

  static void wordLength() {
    tested = "promise 21";
    edge("the empty word has the length 0", () -> due(0, twelve().wordLength(11, 'a')));
    edge("the longest word has the length 25", () -> due(25, byLengths(LENGTHS + "z", "").wordLength(0, 'z')));
    edge("IndexOutOfBoundsException if there is no such code", () -> refusesOtherCodes((s, code) -> s.wordLength(code, 'a')));
    edge("IllegalArgumentException if there is no such sign", () -> {
      for (char no : new char[] {0, '`', '{', 'A', 255, 0xffff}) refuses(ARGUMENT, Checks::twoCodes, s -> s.wordLength(0, no));
    });
    edge("NoSuchElementException if it has no word", () -> {
      refuses(NONE, Checks::twoCodes, s -> s.wordLength(0, 'd'));
      refuses(NONE, Checks::twoCodes, s -> s.wordLength(1, 'z'));
      refuses(NONE, () -> byLengths("ab", ""), s -> s.wordLength(0, 'a'));
    });
    edge("no such code, and no such sign", () -> {
      refuses(INDEX, Checks::twoCodes, s -> s.wordLength(2, '{'));
      refuses(INDEX, Checks::twoCodes, s -> s.wordLength(-1, '`'));
    });
    tested = "promise 23";
    edge("the empty word alone", () -> due(0, twelve().longest(11)));
    edge("the greatest length", () -> due(25, byLengths(LENGTHS + "z", "").longest(0)));
    edge("of the first sign, of the last one", () -> {
      due(3, byLengths("db", "").longest(0));
      due(3, byLengths("bd", "").longest(0));
    });
    edge("IndexOutOfBoundsException if there is no such code", () -> refusesOtherCodes(Shortsign::longest));
  }

  static void wordBit() {
    tested = "promise 22";
    edge("its place in the word, from 0", () -> due('1', byLengths("bcc", "").wordBit(0, 'b', 0)));
    edge("the last place", () -> {
      due('0', byLengths("bcc", "").wordBit(0, 'b', 1));
      due('0', byLengths(LENGTHS + "z", "").wordBit(0, 'y', 24));
      due('1', byLengths(LENGTHS + "z", "").wordBit(0, 'z', 24));
    });
    edge("each digit", () -> {
      Shortsign s = counting(1, 1, 1);
      s.triple();
      due("012", "" + s.wordBit(0, 'a', 0) + s.wordBit(0, 'b', 0) + s.wordBit(0, 'c', 0));
    });
    edge("IndexOutOfBoundsException if there is no such code", () -> refusesOtherCodes((s, code) -> s.wordBit(code, 'b', 0)));
    edge("IllegalArgumentException if there is no such sign", () -> {
      for (char no : new char[] {0, '`', '{', 'B', 255, 0xffff}) refuses(ARGUMENT, Checks::twoCodes, s -> s.wordBit(0, no, 0));
    });
    edge("NoSuchElementException if it has no word", () -> {
      refuses(NONE, Checks::twoCodes, s -> s.wordBit(0, 'd', 0));
      refuses(NONE, Checks::twoCodes, s -> s.wordBit(0, 'd', -1));
    });
    edge("or the word no such place", () -> {
      for (int no : new int[] {-1, 2, 3, 25, LOWEST, HIGHEST}) refuses(NONE, Checks::twoCodes, s -> s.wordBit(0, 'b', no));
      for (int no : new int[] {-1, 25}) refuses(NONE, () -> byLengths(LENGTHS + "z", ""), s -> s.wordBit(0, 'z', no));
    });
    edge("the empty word has no place", () -> {
      for (int no : new int[] {-1, 0, 1}) refuses(NONE, Checks::twelve, s -> s.wordBit(11, 'a', no));
    });
    edge("no such code, and no such sign", () -> refuses(INDEX, Checks::twoCodes, s -> s.wordBit(2, '{', 0)));
    edge("no such code, and no such place", () -> refuses(INDEX, Checks::twoCodes, s -> s.wordBit(-1, 'a', 9)));
    edge("no such sign, and no such place", () -> refuses(ARGUMENT, Checks::twoCodes, s -> s.wordBit(0, '`', -1)));
  }

  static void bits() {
    tested = "promise 24";
    edge("no count is above 0", () -> due(0, byLengths("bcc", "").bits(0)));
    edge("the empty word", () -> due(0, twelve().bits(11)));
    edge("a sign with a word, but no count", () -> {
      Shortsign s = byLengths("bcc", "");
      s.set('b', 3);
      due(6, s.bits(0));
    });
    edge("the greatest count, of the longest word", () -> {
      Shortsign s = byLengths(LENGTHS + "z", "");
      s.set('z', 9999);
      due(9999 * 25, s.bits(0));
      s.set('a', 9999);
      s.set('y', 9999);
      due(9999 * 51, s.bits(0));
    });
    edge("digits of triples", () -> due(4, twoCodes().bits(1)));
    edge("NoSuchElementException if a sign with a count above 0 has no word", () -> {
      refuses(NONE, CodeEdgesTest::countedBeyond, s -> s.bits(0));
      Shortsign first = byLengths("abcc", "");
      first.set('a', 1);
      refused(NONE, first, () -> first.bits(0));
    });
    edge("IndexOutOfBoundsException if there is no such code", () -> refusesOtherCodes(Shortsign::bits));
    edge("no such code, and a sign without a word", () -> {
      refuses(INDEX, CodeEdgesTest::countedBeyond, s -> s.bits(2));
      refuses(INDEX, CodeEdgesTest::countedBeyond, s -> s.bits(-1));
    });
    tested = "promise 25";
    edge("the empty word: 2 to the power of 25", () -> due(33554432L, twelve().sum(11)));
    edge("the empty word with triples: 3 to the power of 25", () -> {
      Shortsign s = counting(1);
      s.triple();
      due(847288609443L, s.sum(0));
    });
    edge("a word of 25 bits alone: 1", () -> due(1L, byLengths("z", "").sum(0)));
    edge("a word of 1 bit alone", () -> due(1L << 24, byLengths("b", "").sum(0)));
    edge("an even number with triples has a word fewer", () -> {
      due(2 * 282429536481L, sumOfTriples(2));
      due(26 * 31381059609L, sumOfTriples(26));
    });
    edge("an odd number with triples has all", () -> {
      due(847288609443L, sumOfTriples(3));
      due(847288609443L, sumOfTriples(25));
    });
    edge("all 26 signs of each other kind", () -> {
      Shortsign s = countingAlike(26, 9999);
      due(1L << 25, s.sum(s.least()));
      due(1L << 25, s.sum(s.bounded(5)));
      due(1L << 25, s.sum(s.ordered()));
    });
    edge("IndexOutOfBoundsException if there is no such code", () -> refusesOtherCodes(Shortsign::sum));
  }

  private static Shortsign countedBeyond() {
    Shortsign s = twoCodes();
    s.set('z', 1);
    return s;
  }

  private static long sumOfTriples(int signs) {
    Shortsign s = countingAlike(signs, 1);
    return s.sum(s.triple());
  }

  static void lookup() {
    tested = "promise 26";
    edge("width: 1 is the least", () -> {
      Shortsign s = byLengths("bcc", "");
      due(0, s.lookup(0, 1, 0));
      due(-1, s.lookup(0, 1, 1));
    });
    edge("width: 8 is the greatest", () -> {
      Shortsign s = byLengths("bcc", "");
      due(0, s.lookup(0, 8, 0));
      due(0, s.lookup(0, 8, 127));
      due(1, s.lookup(0, 8, 128));
      due(1, s.lookup(0, 8, 191));
      due(2, s.lookup(0, 8, 192));
      due(2, s.lookup(0, 8, 255));
    });
    edge("a word just as long as the bits", () -> {
      Shortsign s = byLengths("ccdd", "");
      due(2, s.lookup(0, 3, 4));
      due(3, s.lookup(0, 3, 5));
      due(0, byLengths("i", "").lookup(0, 8, 0));
    });
    edge("-1 if there is none, but they begin some word", () -> {
      Shortsign s = byLengths("ccdd", "");
      due(-1, s.lookup(0, 2, 2));
      due(-1, byLengths("i", "").lookup(0, 7, 0));
      due(-1, byLengths("j", "").lookup(0, 8, 0));
      due(-1, byLengths("z", "").lookup(0, 8, 0));
      due(-1, byLengths("z", "").lookup(0, 1, 0));
    });
    edge("-2 otherwise", () -> {
      Shortsign s = byLengths("ccdd", "");
      due(-2, s.lookup(0, 2, 3));
      due(-2, s.lookup(0, 3, 6));
      due(-2, s.lookup(0, 8, 255));
      due(-2, byLengths("z", "").lookup(0, 8, 1));
      due(-2, byLengths("z", "").lookup(0, 1, 1));
    });
    edge("the empty word begins all", () -> {
      Shortsign s = new Shortsign();
      s.set('z', 1);
      s.least();
      due(25, s.lookup(0, 1, 0));
      due(25, s.lookup(0, 1, 1));
      due(25, s.lookup(0, 8, 255));
    });
    edge("the width is out of range", () -> {
      for (int no : new int[] {0, 9, -1, 31, 32, 33, LOWEST, HIGHEST}) refuses(ARGUMENT, Checks::twoCodes, s -> s.lookup(0, no, 0));
    });
    edge("the bits are not 0 to 2 to the power of the width, less 1", () -> {
      for (int width = 1; width <= 8; width++) {
        int wide = width;
        due(wide == 1 ? -1 : 2, byLengths("bcc", "").lookup(0, wide, (1 << wide) - 1));
        for (int no : new int[] {-1, 1 << wide, LOWEST, HIGHEST}) refuses(ARGUMENT, Checks::twoCodes, s -> s.lookup(0, wide, no));
      }
    });
    edge("UnsupportedOperationException if it is a code with triples", () -> {
      refuses(UNSUPPORTED, Checks::twoCodes, s -> s.lookup(1, 1, 0));
      refuses(UNSUPPORTED, Checks::twoCodes, s -> s.lookup(1, 8, 255));
    });
    edge("IndexOutOfBoundsException if there is no such code", () -> refusesOtherCodes((s, code) -> s.lookup(code, 1, 0)));
    edge("no such code, and the width or the bits out of range", () -> {
      refuses(INDEX, Checks::twoCodes, s -> s.lookup(2, 0, 0));
      refuses(INDEX, Checks::twoCodes, s -> s.lookup(-1, 8, 256));
    });
    edge("the width or the bits out of range, and triples", () -> {
      refuses(ARGUMENT, Checks::twoCodes, s -> s.lookup(1, 9, 0));
      refuses(ARGUMENT, Checks::twoCodes, s -> s.lookup(1, 1, 2));
    });
  }

  public static void main(String[] args) {
    least();
    bounded();
    ordered();
    triple();
    byLengths();
    forgetAndCodes();
    kindOf();
    signAt();
    wordLength();
    wordBit();
    bits();
    lookup();
    end("");
  }
}
