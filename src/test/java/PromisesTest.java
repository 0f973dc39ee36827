import java.lang.reflect.Method;

/** By promise: answers worked out by hand, the edges that the document names, and wrong inputs. */
public final class PromisesTest extends Checks {
  static void promise01() {
    Shortsign s = new Shortsign();
    due(0, s.length());
    due(0, s.codes());
    due(0, s.streamBits());
    due(0, s.written());
    for (char sign = 'a'; sign <= 'z'; sign++) due(0, s.count(sign));
  }

  static void promise02() {
    Shortsign s = new Shortsign();
    due(1, s.type('a'));
    due(2, s.type('z'));
    due("az", text(s));
    for (char no : new char[] {0, '`', '{', 'A', '1', 255, 0xffff}) refused(ARGUMENT, s, () -> s.type(no));
    for (int typed = 3; typed <= 120; typed++) due(typed, s.type('m'));
    refused(STATE, s, () -> s.type('a'));
    refused(ARGUMENT, s, () -> s.type('A'));
  }

  static void promise03() {
    Shortsign s = new Shortsign();
    due(1, s.typeMore(1, 'q', '0', '0', '0', '0', '0', '0', '0'));
    due(4, s.typeMore(3, 'a', 'b', 'z', '{', '{', '{', '{', '{'));
    due(12, s.typeMore(8, 'a', 'b', 'c', 'd', 'e', 'f', 'g', 'h'));
    due("qabzabcdefgh", text(s));
    for (int no : new int[] {0, 9, -1, Integer.MIN_VALUE, Integer.MAX_VALUE}) {
      refused(ARGUMENT, s, () -> s.typeMore(no, 'a', 'b', 'c', 'd', 'e', 'f', 'g', 'h'));
    }
    refused(ARGUMENT, s, () -> s.typeMore(8, 'a', 'b', 'c', 'd', 'e', 'f', 'g', 'H'));
    refused(ARGUMENT, s, () -> s.typeMore(2, 'a', (char) 0, 'c', 'd', 'e', 'f', 'g', 'h'));
    while (s.length() < 115) s.type('b');
    refused(STATE, s, () -> s.typeMore(6, 'a', 'b', 'c', 'd', 'e', 'f', 'g', 'h'));
    refused(ARGUMENT, s, () -> s.typeMore(6, 'a', 'b', 'c', 'd', 'e', '`', 'g', 'h'));
    due(120, s.typeMore(5, 'a', 'b', 'c', 'd', 'e', 'f', 'g', 'h'));
    refused(STATE, s, () -> s.typeMore(1, 'a', 'b', 'c', 'd', 'e', 'f', 'g', 'h'));
  }

  static void promise04() {
    Shortsign s = typing("abc");
    due(3, s.wipe());
    due(0, s.length());
    due(0, s.wipe());
  }

  static void promise05() {
    Shortsign s = typing("abca");
    due(4, s.length());
    s.wipe();
    due(0, s.length());
  }

  static void promise06() {
    Shortsign s = typing("xyz");
    due('x', s.typed(0));
    due('z', s.typed(2));
    for (int no : new int[] {-1, 3, 119, 120, Integer.MIN_VALUE, Integer.MAX_VALUE}) {
      refused(INDEX, s, () -> s.typed(no));
    }
    refused(INDEX, new Shortsign(), () -> new Shortsign().typed(0));
  }

  static void promise07() {
    Shortsign s = new Shortsign();
    due(0, s.set('a', 9999));
    due(9999, s.set('a', 0));
    due(0, s.set('a', 5));
    due(5, s.count('a'));
    refused(ARGUMENT, s, () -> s.set('a', 10000));
    refused(ARGUMENT, s, () -> s.set('a', -1));
    refused(ARGUMENT, s, () -> s.set('{', 1));
    refused(ARGUMENT, s, () -> s.set('`', 1));
  }

  static void promise08() {
    Shortsign s = counting(1, 2);
    s.set('z', 7);
    due(1, s.count('a'));
    due(2, s.count('b'));
    due(0, s.count('c'));
    due(7, s.count('z'));
    refused(ARGUMENT, s, () -> s.count('Z'));
    refused(ARGUMENT, s, () -> s.count((char) 0));
  }

  static void promise09() {
    Shortsign s = typing("abbaz");
    s.set('q', 100);
    due(3, s.take());
    due(2, s.count('a'));
    due(2, s.count('b'));
    due(1, s.count('z'));
    due(0, s.count('q'));
    due("abbaz", text(s));
    s.wipe();
    due(0, s.take());
    due(0, s.count('a'));
  }

  static void promise10() {
    Shortsign s = counting(1, 20, 300);
    due(321, s.clear());
    due(0, s.count('c'));
    due(0, s.clear());
    for (char sign = 'a'; sign <= 'z'; sign++) s.set(sign, 9999);
    due(259974, s.clear());
  }

  static void promise11() {
    Shortsign s = counting(5, 9, 12, 13, 16, 45);
    due(0, s.least());
    due("a1110 b1111 c100 d101 e110 f0", words(s, 0));
    // Of like weights the lowest numbers: a with b, then c ahead of the joined tree of 2.
    Shortsign like = counting(1, 1, 2);
    like.least();
    due("a10 b11 c0", words(like, 0));
    Shortsign more = counting(1, 1, 2, 2);
    more.least();
    due("a00 b01 c10 d11", words(more, 0));
    Shortsign single = counting(0, 0, 7);
    single.least();
    due("c", words(single, 0));
    due(1, single.least());
    refused(NONE, new Shortsign(), () -> new Shortsign().least());
    Shortsign full = twelve();
    refused(STATE, full, full::least);
    full.clear();
    refused(NONE, full, full::least);
  }

  static void promise12() {
    Shortsign s = counting(5, 9, 12, 13, 16, 45);
    due(0, s.bounded(3));
    due("a100 b101 c110 d111 e00 f01", words(s, 0));
    due(1, s.bounded(4));
    due("a1110 b1111 c100 d101 e110 f0", words(s, 1));
    due(2, s.bounded(25));
    due(words(s, 1), words(s, 2));
    for (int no : new int[] {0, 26, -1, Integer.MIN_VALUE, Integer.MAX_VALUE}) refused(ARGUMENT, s, () -> s.bounded(no));
    refused(UNSUPPORTED, s, () -> s.bounded(2));
    Shortsign two = counting(1, 9);
    due(0, two.bounded(1));
    due("a0 b1", words(two, 0));
    two.set('c', 1);
    refused(UNSUPPORTED, two, () -> two.bounded(1));
    Shortsign all = counting(1, 1, 1, 1, 1, 1, 1, 1, 1, 1, 1, 1, 1, 1, 1, 1, 1, 1, 1, 1, 1, 1, 1, 1, 1, 1);
    refused(UNSUPPORTED, all, () -> all.bounded(4));
    due(0, all.bounded(5));
    due(5, all.longest(0));
    // Coins ahead of packages of like weight: c has 1 bit, as the tree of a and b has the same weight.
    Shortsign like = counting(1, 1, 2);
    like.bounded(2);
    due("a10 b11 c0", words(like, 0));
    Shortsign one = counting(0, 3);
    due(0, one.bounded(1));
    due("b", words(one, 0));
    refused(NONE, new Shortsign(), () -> new Shortsign().bounded(1));
    refused(ARGUMENT, new Shortsign(), () -> new Shortsign().bounded(0));
    Shortsign full = twelve();
    refused(STATE, full, () -> full.bounded(5));
    refused(ARGUMENT, full, () -> full.bounded(26));
    full.set('b', 1);
    full.set('c', 1);
    refused(UNSUPPORTED, full, () -> full.bounded(1));
    full.clear();
    refused(NONE, full, () -> full.bounded(1));
  }

  static void promise13() {
    // a and b, then that tree and c, and so on: the joined tree comes back to the beginning each time.
    Shortsign rising = counting(1, 2, 4, 8);
    due(0, rising.ordered());
    due("a000 b001 c01 d1", words(rising, 0));
    Shortsign falling = counting(8, 4, 2, 1);
    falling.ordered();
    due("a0 b10 c110 d111", words(falling, 0));
    // b and c join to 2 and come behind a, which is heavier; then c's tree with d, as 9 is more than 2 + 3.
    Shortsign s = counting(9, 1, 1, 3);
    due(0, s.ordered());
    due("a0 b100 c101 d11", words(s, 0));
    // The joined tree of b and c stays just behind a that weighs no less, and the first of three like ones are joined.
    Shortsign like = counting(2, 1, 1, 2);
    like.ordered();
    due("a00 b010 c011 d1", words(like, 0));
    Shortsign single = counting(0, 7);
    single.ordered();
    due("b", words(single, 0));
    refused(NONE, new Shortsign(), () -> new Shortsign().ordered());
    Shortsign full = twelve();
    refused(STATE, full, full::ordered);
    full.clear();
    refused(NONE, full, full::ordered);
  }

  static void promise14() {
    Shortsign even = counting(1, 2, 3, 4);
    due(0, even.triple());
    due("a20 b21 c0 d1", words(even, 0));
    Shortsign odd = counting(1, 1, 1, 5, 5);
    odd.triple();
    due("a20 b21 c22 d0 e1", words(odd, 0));
    Shortsign two = counting(7, 7);
    two.triple();
    due("a0 b1", words(two, 0));
    Shortsign single = counting(7);
    single.triple();
    due("a", words(single, 0));
    // d ahead of the joined tree of 3: then d, e and f are joined first, though that tree weighs as much as each.
    Shortsign like = counting(1, 1, 1, 3, 3, 3, 9);
    like.triple();
    due("a10 b11 c12 d20 e21 f22 g0", words(like, 0));
    refused(NONE, new Shortsign(), () -> new Shortsign().triple());
    Shortsign full = twelve();
    refused(STATE, full, full::triple);
    full.clear();
    refused(NONE, full, full::triple);
  }

  static void promise15() {
    Shortsign s = typing("bacd");
    due(0, s.byLengths());
    due("bacd", text(s));
    due("a0 c10 d110", words(s, 0));
    s.wipe();
    refused(NONE, s, s::byLengths);
    type(s, "aaaa");
    refused(NONE, s, s::byLengths);
    s.wipe();
    type(s, "bbz");
    refused(UNSUPPORTED, s, s::byLengths);
    s.wipe();
    type(s, "bb");
    due(1, s.byLengths());
    due("a0 b1", words(s, 1));
    s.wipe();
    type(s, "bcdefghijklmnopqrstuvwxyza");
    due(2, s.byLengths());
    due(25, s.longest(2));
    due("1111111111111111111111110", word(s, 2, 'y'));
    s.type('a');
    refused(ARGUMENT, s, s::byLengths);
    Shortsign full = twelve();
    refused(NONE, full, full::byLengths);
    type(full, "bbb");
    refused(UNSUPPORTED, full, full::byLengths);
    full.wipe();
    type(full, "b");
    refused(STATE, full, full::byLengths);
    type(full, "aaaaaaaaaaaaaaaaaaaaaaaaaa");
    refused(ARGUMENT, full, full::byLengths);
  }

  static void promise16() {
    Shortsign s = twelve();
    due(12, s.forget());
    due(0, s.codes());
    due(0, s.forget());
    due(0, s.least());
    due(1, s.count('a'));
  }

  static void promise17() {
    Shortsign s = counting(1, 2);
    due(0, s.codes());
    s.least();
    s.triple();
    due(2, s.codes());
    due(12, twelve().codes());
  }

  static void promise18() {
    Shortsign s = counting(1, 2, 3);
    s.triple();
    s.least();
    s.ordered();
    s.bounded(2);
    s.type('c');
    s.byLengths();
    due("thobk", "" + s.kindOf(0) + s.kindOf(1) + s.kindOf(2) + s.kindOf(3) + s.kindOf(4));
    for (int no : new int[] {-1, 5, 12, Integer.MIN_VALUE, Integer.MAX_VALUE}) refused(INDEX, s, () -> s.kindOf(no));
  }

  static void promise19() {
    Shortsign s = counting(1, 0, 3, 4);
    s.least();
    s.clear();
    due(3, s.signs(0));
    type(s, "aazb");
    s.byLengths();
    due(2, s.signs(1));
    refused(INDEX, s, () -> s.signs(2));
    refused(INDEX, s, () -> s.signs(-1));
  }

  static void promise20() {
    Shortsign s = counting(5, 9, 12, 13, 16, 45);
    s.least();
    StringBuilder order = new StringBuilder();
    for (int rank = 0; rank < 6; rank++) order.append(s.signAt(0, rank));
    due("fcdeab", order.toString());
    s.ordered();
    order.setLength(0);
    for (int rank = 0; rank < 6; rank++) order.append(s.signAt(1, rank));
    due("abcdef", order.toString());
    Shortsign t = counting(1, 2, 3, 4);
    t.triple();
    due("cdab", "" + t.signAt(0, 0) + t.signAt(0, 1) + t.signAt(0, 2) + t.signAt(0, 3));
    for (int no : new int[] {-1, 6, Integer.MIN_VALUE, Integer.MAX_VALUE}) refused(INDEX, s, () -> s.signAt(0, no));
    refused(INDEX, s, () -> s.signAt(2, 0));
    refused(INDEX, s, () -> s.signAt(-1, 0));
  }

  static void promise21() {
    Shortsign s = counting(1, 1, 2);
    s.least();
    s.clear();
    due(2, s.wordLength(0, 'a'));
    due(1, s.wordLength(0, 'c'));
    Shortsign single = counting(3);
    single.least();
    due(0, single.wordLength(0, 'a'));
    refused(NONE, s, () -> s.wordLength(0, 'd'));
    refused(ARGUMENT, s, () -> s.wordLength(0, '{'));
    refused(INDEX, s, () -> s.wordLength(1, '{'));
    refused(INDEX, s, () -> s.wordLength(-1, 'a'));
  }

  static void promise22() {
    Shortsign s = counting(1, 2, 3, 4);
    s.triple();
    due('2', s.wordBit(0, 'b', 0));
    due('1', s.wordBit(0, 'b', 1));
    due('0', s.wordBit(0, 'a', 1));
    for (int no : new int[] {2, -1, Integer.MIN_VALUE, Integer.MAX_VALUE}) refused(NONE, s, () -> s.wordBit(0, 'b', no));
    refused(NONE, s, () -> s.wordBit(0, 'e', 0));
    refused(ARGUMENT, s, () -> s.wordBit(0, 'B', 9));
    refused(INDEX, s, () -> s.wordBit(1, 'B', 9));
    Shortsign single = counting(3);
    single.least();
    refused(NONE, single, () -> single.wordBit(0, 'a', 0));
  }

  static void promise23() {
    Shortsign s = counting(5, 9, 12, 13, 16, 45);
    s.least();
    s.bounded(3);
    due(4, s.longest(0));
    due(3, s.longest(1));
    Shortsign single = counting(3);
    single.least();
    due(0, single.longest(0));
    refused(INDEX, s, () -> s.longest(2));
    refused(INDEX, s, () -> s.longest(-1));
  }

  static void promise24() {
    Shortsign s = counting(5, 9, 12, 13, 16, 45);
    s.least();
    s.bounded(3);
    due(224, s.bits(0));
    due(239, s.bits(1));
    s.triple();
    // The tree without a sign, a and b make 14; c, d and that make 39: 14 + 39 + 100.
    due(153, s.bits(2));
    s.set('a', 9999);
    due(224 + 4 * 9994, s.bits(0));
    s.set('g', 1);
    refused(NONE, s, () -> s.bits(0));
    s.clear();
    due(0, s.bits(0));
    refused(INDEX, s, () -> s.bits(3));
    refused(INDEX, s, () -> s.bits(-1));
  }

  static void promise25() {
    Shortsign s = counting(1, 2, 3, 4);
    s.least();
    s.triple();
    due(1L << 25, s.sum(0));
    due(2 * 282429536481L + 2 * 94143178827L, s.sum(1));
    type(s, "dz");
    s.byLengths();
    due((1L << 22) + 1, s.sum(2));
    Shortsign single = counting(3);
    single.triple();
    due(847288609443L, single.sum(0));
    refused(INDEX, s, () -> s.sum(3));
    refused(INDEX, s, () -> s.sum(-1));
  }

  static void promise26() {
    Shortsign s = byLengths("ccdd", "");
    due(0, s.lookup(0, 2, 0));
    due(1, s.lookup(0, 2, 1));
    due(-1, s.lookup(0, 2, 2));
    due(-2, s.lookup(0, 2, 3));
    due(-1, s.lookup(0, 1, 0));
    due(-1, s.lookup(0, 1, 1));
    due(3, s.lookup(0, 8, 0xbf));
    due(-2, s.lookup(0, 8, 0xff));
    for (int no : new int[] {0, 9, -1, 32, 33, Integer.MIN_VALUE, Integer.MAX_VALUE}) {
      refused(ARGUMENT, s, () -> s.lookup(0, no, 0));
    }
    refused(ARGUMENT, s, () -> s.lookup(0, 2, 4));
    refused(ARGUMENT, s, () -> s.lookup(0, 8, 256));
    refused(ARGUMENT, s, () -> s.lookup(0, 8, -1));
    s.set('a', 1);
    s.triple();
    refused(UNSUPPORTED, s, () -> s.lookup(1, 1, 0));
    refused(ARGUMENT, s, () -> s.lookup(1, 1, 2));
    refused(INDEX, s, () -> s.lookup(2, 0, 2));
    s.least();
    due(0, s.lookup(2, 1, 1));
  }

  static void promise27() {
    due(0, new Shortsign().leastBits());
    due(0, counting(9).leastBits());
    due(9, counting(2, 7).leastBits());
    due(224, counting(5, 9, 12, 13, 16, 45).leastBits());
  }

  static void promise28() {
    Shortsign s = counting(5, 9, 12, 13, 16, 45);
    due(15, s.boundCost(3));
    due(0, s.boundCost(4));
    due(0, s.boundCost(25));
    refused(UNSUPPORTED, s, () -> s.boundCost(2));
    for (int no : new int[] {0, 26, -1, Integer.MIN_VALUE, Integer.MAX_VALUE}) refused(ARGUMENT, s, () -> s.boundCost(no));
    due(0, new Shortsign().boundCost(1));
    refused(ARGUMENT, new Shortsign(), () -> new Shortsign().boundCost(0));
    due(0, counting(1, 8).boundCost(1));
  }

  static void promise29() {
    due(0, new Shortsign().orderCost());
    due(0, counting(1, 2, 4, 8).orderCost());
    // In order a and b are joined ahead of c: 11 and 12 bits; the least code joins a and c: 2 and 12.
    due(9, counting(1, 10, 1).orderCost());
    due(0, counting(5).orderCost());
  }

  static void promise30() {
    Shortsign s = typing("ababcabab");
    // a 4, b 4, c 1: 5 + 9.
    due(14, s.blockBits(1));
    // ab 2, ca 1, ba 1, b 1: blocks ab ab ca ba b.
    due(10, s.blockBits(2));
    // aba bca bab, each once.
    due(5, s.blockBits(3));
    // abab caba b.
    due(5, s.blockBits(4));
    due("ababcabab", text(s));
    // The last block is shorter, and so none of the others: aa aa a.
    due(3, typing("aaaaa").blockBits(2));
    due(0, typing("aaaa").blockBits(2));
    due(0, new Shortsign().blockBits(4));
    for (int no : new int[] {0, 5, -1, Integer.MIN_VALUE, Integer.MAX_VALUE}) refused(ARGUMENT, s, () -> s.blockBits(no));
  }

  static void promise31() {
    Shortsign s = new Shortsign();
    due(2, s.fewestFor(1));
    due(3, s.fewestFor(2));
    due(5, s.fewestFor(3));
    due(8, s.fewestFor(4));
    due(196418, s.fewestFor(25));
    for (int no : new int[] {0, 26, -1, Integer.MIN_VALUE, Integer.MAX_VALUE}) refused(ARGUMENT, s, () -> s.fewestFor(no));
  }

  static void promise32() {
    Shortsign s = new Shortsign();
    int[] first = {1, 1, 1, 2, 3, 5, 8};
    for (int index = 0; index < first.length; index++) due(first[index], s.countFor(6, index));
    due(75025, s.countFor(25, 25));
    due(1, s.countFor(1, 1));
    for (int no : new int[] {0, 26, -1, Integer.MAX_VALUE}) refused(ARGUMENT, s, () -> s.countFor(no, -1));
    for (int no : new int[] {7, -1, Integer.MIN_VALUE, Integer.MAX_VALUE}) refused(INDEX, s, () -> s.countFor(6, no));
  }

  static void promise33() {
    Shortsign s = typing("aabb");
    due(4 + 130 - 260, s.saved(2));
    due(4 + 130 - 3 - 260, s.saved(1));
    due(-130, s.saved(0));
    due(-130, s.saved(4));
    due("aabb", text(s));
    due(-130, new Shortsign().saved(0));
    for (int no : new int[] {-1, 5, Integer.MIN_VALUE, Integer.MAX_VALUE}) refused(INDEX, s, () -> s.saved(no));
    refused(INDEX, new Shortsign(), () -> new Shortsign().saved(1));
    StringBuilder halves = new StringBuilder();
    for (int i = 0; i < 60; i++) halves.append("ab".charAt(i % 2));
    for (int i = 0; i < 60; i++) halves.append("cd".charAt(i % 2));
    // 240 bits together, 60 and 60 apart.
    due(240 - 120 - 130, typing(halves.toString()).saved(60));
  }

  static void promise34() {
    due(0, new Shortsign().bestCut());
    due(0, typing("aaa").bestCut());
    due(2, typing("aabb").bestCut());
    due(3, typing("aaabcbc").bestCut());
  }

  static void promise35() {
    Shortsign s = byLengths("ccdd", "abdc");
    due(10, s.write(0));
    due("0001101100", stream(s));
    due(4, s.written());
    due("abdc", text(s));
    s.type('e');
    refused(NONE, s, () -> s.write(0));
    s.set('a', 1);
    s.triple();
    refused(UNSUPPORTED, s, () -> s.write(1));
    refused(INDEX, s, () -> s.write(2));
    refused(INDEX, s, () -> s.write(-1));
    s.wipe();
    type(s, "d");
    due(3, s.write(0));
    due("101", stream(s));
    s.wipe();
    due(0, s.write(0));
    due(0, s.written());
    Shortsign single = counting(1);
    single.least();
    type(single, "aaa");
    due(0, single.write(0));
    due(3, single.written());
    Shortsign longest = byLengths("z", "");
    while (longest.length() < 120) longest.type('a');
    due(3000, longest.write(0));
  }

  static void promise36() {
    Shortsign s = byLengths("ccdd", "abdc");
    s.write(0);
    s.wipe();
    type(s, "zz");
    due(4, s.read(0));
    due("abdc", text(s));
    // 00 01 101 100 with the first bit turned: 100 11.., and no word begins with 11.
    s.turn(0);
    due(1, s.read(0));
    due("c", text(s));
    due(4, s.written());
    // A shorter code would read more than were written: only as many are read.
    s.turn(0);
    type(s, "bbb");
    s.wipe();
    type(s, "bb");
    s.byLengths();
    due(4, s.read(1));
    due("aaab", text(s));
    // Bits that end within a word are not read.
    Shortsign cut = byLengths("ccdd", "ab");
    cut.write(0);
    cut.wipe();
    type(cut, "dddddddd");
    cut.byLengths();
    due(1, cut.read(1));
    due("a", text(cut));
    Shortsign single = counting(1);
    single.least();
    type(single, "aaa");
    single.write(0);
    single.wipe();
    due(3, single.read(0));
    due("aaa", text(single));
    single.triple();
    refused(UNSUPPORTED, single, () -> single.read(1));
    refused(INDEX, single, () -> single.read(2));
    refused(INDEX, single, () -> single.read(-1));
    Shortsign empty = counting(1);
    empty.least();
    type(empty, "b");
    due(0, empty.read(0));
    due(0, empty.length());
  }

  static void promise37() {
    // a: the empty word of the mark and 00000; then 0; b: the mark's 1 and 00001.
    Shortsign s = typing("aab");
    due(12, s.writeGrowing());
    due("000000100001", stream(s));
    due(3, s.written());
    due("aab", text(s));
    // The mark counts as a sign behind z: z has 0 ahead of it.
    Shortsign z = typing("zz");
    due(6, z.writeGrowing());
    due("110010", stream(z));
    s.wipe();
    due(0, s.writeGrowing());
    due(0, s.written());
    // 36 of a, 2 of b, 2 of c and the mark are 41: they become 18, 1, 1 and 1, and c has 3 bits and not 2 then.
    StringBuilder text = new StringBuilder();
    for (int i = 0; i < 36; i++) text.append('a');
    due(5 + 35, typing(text.toString()).writeGrowing());
    due(40 + 6 + 2 + 7 + 3, typing(text + "bbcc").writeGrowing());
    due(58 + 3, typing(text + "bbccc").writeGrowing());
    // With 35 of a there are only 40, which stay: c has 2 bits.
    due(57 + 2, typing(text.substring(1) + "bbccc").writeGrowing());
  }

  static void promise38() {
    Shortsign s = typing("aabacadabrazzzz");
    s.writeGrowing();
    s.wipe();
    due(15, s.readGrowing());
    due("aabacadabrazzzz", text(s));
    // 11111 tells 31 behind the mark's empty word.
    Shortsign high = typing("z");
    high.writeGrowing();
    high.turn(2);
    due(0, high.readGrowing());
    due("", text(high));
    due(1, high.written());
    // 1 00000 behind a: the mark, and a once more.
    Shortsign again = typing("ab");
    again.writeGrowing();
    due("00000100001", stream(again));
    again.turn(10);
    due(2, again.readGrowing());
    due("aa", text(again));
    // Too few bits behind the mark: 00000 1 and no more.
    Shortsign few = typing("aa");
    few.writeGrowing();
    few.turn(5);
    due(1, few.readGrowing());
    due("a", text(few));
    // No bits left, but signs: the word of a code of two signs is never empty.
    Shortsign none = byLengths("bddd", "aaaaa");
    none.write(0);
    due(1, none.readGrowing());
    due("a", text(none));
    Shortsign grown = new Shortsign();
    for (int i = 0; i < 120; i++) grown.type((char) ('a' + i * i % 26));
    String text = text(grown);
    grown.writeGrowing();
    grown.wipe();
    due(120, grown.readGrowing());
    due(text, text(grown));
    due(0, new Shortsign().readGrowing());
  }

  static void promise39() {
    Shortsign s = byLengths("ccdd", "abdc");
    due(0, s.streamBits());
    s.write(0);
    due(10, s.streamBits());
    s.read(0);
    s.turn(3);
    due(10, s.streamBits());
  }

  static void promise40() {
    Shortsign s = byLengths("ccdd", "abdc");
    due(0, s.written());
    s.write(0);
    due(4, s.written());
    s.wipe();
    due(4, s.written());
    type(s, "xy");
    s.writeGrowing();
    due(2, s.written());
  }

  static void promise41() {
    Shortsign s = byLengths("ccdd", "d");
    refused(INDEX, s, () -> s.bitAt(0));
    s.write(0);
    due("101", "" + s.bitAt(0) + s.bitAt(1) + s.bitAt(2));
    for (int no : new int[] {-1, 3, Integer.MIN_VALUE, Integer.MAX_VALUE}) refused(INDEX, s, () -> s.bitAt(no));
  }

  static void promise42() {
    Shortsign s = byLengths("ccdd", "d");
    refused(INDEX, s, () -> s.turn(0));
    s.write(0);
    due(0, s.turn(0));
    due("001", stream(s));
    due(1, s.turn(0));
    due("101", stream(s));
    for (int no : new int[] {-1, 3, Integer.MIN_VALUE, Integer.MAX_VALUE}) refused(INDEX, s, () -> s.turn(no));
  }

  static void promise43() {
    Shortsign s = byLengths("ccdd", "dddb");
    refused(INDEX, s, () -> s.byteAt(0));
    s.write(0);
    // 10110110 101
    due(0xb6, s.byteAt(0));
    due(0xa0, s.byteAt(1));
    for (int no : new int[] {-1, 2, 3, Integer.MIN_VALUE, Integer.MAX_VALUE, 1 << 29}) refused(INDEX, s, () -> s.byteAt(no));
    Shortsign full = byLengths("b", "aaaaaaaa");
    full.write(0);
    due(0, full.byteAt(0));
    refused(INDEX, full, () -> full.byteAt(1));
    full.turn(0);
    due(128, full.byteAt(0));
  }

  static void promise44() {
    // a 0, b 10, c 11; baca is 10 0 11 0.
    Shortsign s = byLengths("bcc", "baca");
    s.write(0);
    // 0 0 0 11 0: a word ends at 2 in both, the first of a at 1 only in one.
    due(2, s.inStep(0, 0));
    // 11 0 11 0
    due(2, s.inStep(0, 1));
    // 10 11 10: 2 is no more than the place, 4 in one and 3 and 5 in the other, and 6.
    due(6, s.inStep(0, 2));
    // 10 0 0 10
    due(6, s.inStep(0, 3));
    // 10 0 10 0: the words end at the same places.
    due(5, s.inStep(0, 4));
    // The last bit: 10 0 11 1, which ends within a word.
    due(-1, s.inStep(0, 5));
    for (int no : new int[] {-1, 6, Integer.MIN_VALUE, Integer.MAX_VALUE}) refused(INDEX, s, () -> s.inStep(0, no));
    refused(INDEX, s, () -> s.inStep(1, 0));
    refused(INDEX, s, () -> s.inStep(-1, 0));
    s.set('a', 1);
    s.triple();
    s.least();
    refused(UNSUPPORTED, s, () -> s.inStep(1, 0));
    refused(UNSUPPORTED, s, () -> s.inStep(2, 0));
    refused(INDEX, s, () -> s.inStep(1, 6));
    // However many signs were written: aaaaaaaa by one bit each, read by three.
    Shortsign more = byLengths("b", "aaa");
    more.write(0);
    more.wipe();
    type(more, "dddddddd");
    more.byLengths();
    due(3, more.inStep(1, 0));
    due(-1, more.inStep(0, 0));
    // Reading that never comes to the place is not in step behind it.
    Shortsign stuck = byLengths("ccdd", "aaaa");
    stuck.write(0);
    stuck.turn(0);
    stuck.turn(1);
    due(-1, stuck.inStep(0, 6));
    due(-1, stuck.inStep(0, 0));
  }

  static void promise45() {
    Shortsign s = byLengths("bcc", "baca");
    s.write(0);
    due(1, s.lost(0, 0));
    due(1, s.lost(0, 5));
    for (int no : new int[] {-1, 6, Integer.MIN_VALUE, Integer.MAX_VALUE}) refused(INDEX, s, () -> s.lost(0, no));
    refused(INDEX, s, () -> s.lost(1, 0));
    refused(INDEX, s, () -> s.lost(-1, 0));
    s.set('a', 1);
    s.triple();
    s.least();
    refused(UNSUPPORTED, s, () -> s.lost(1, 0));
    refused(UNSUPPORTED, s, () -> s.lost(2, 0));
    refused(INDEX, s, () -> s.lost(2, 6));
    // With the word 0 alone no turned bit can be read: all of 32 places are lost, and fewer at the end.
    Shortsign all = byLengths("b", "aaaaaaaaaaaaaaaaaaaaaaaaaaaaaaaaaaaaaaaa");
    all.write(0);
    due(32, all.lost(0, 0));
    due(32, all.lost(0, 8));
    due(31, all.lost(0, 9));
    due(1, all.lost(0, 39));
  }

  static void promise46() {
    Shortsign s = typing("abba");
    due(2, s.moves());
    due("abab", text(s));
    Shortsign z = typing("zzz");
    due(2, z.moves());
    due("zaa", text(z));
    due(0, new Shortsign().moves());
  }

  static void promise47() {
    Shortsign s = typing("abab");
    due(3, s.unmoves());
    due("abba", text(s));
    Shortsign z = typing("zaaz");
    due(2, z.unmoves());
    due("zzzy", text(z));
    due(1, typing("a").unmoves());
    due(0, new Shortsign().unmoves());
  }

  static void promise48() {
    Shortsign s = typing("aaabcc");
    due(6, s.runs());
    due("acbacb", text(s));
    StringBuilder text = new StringBuilder();
    for (int i = 0; i < 53; i++) text.append('q');
    Shortsign cut = typing(text.toString());
    due(6, cut.runs());
    due("qzqzqa", text(cut));
    due(0, new Shortsign().runs());
    StringBuilder even = new StringBuilder();
    for (int i = 0; i < 60; i++) even.append("ab".charAt(i % 2));
    Shortsign full = typing(even.toString());
    due(120, full.runs());
    Shortsign over = typing(even + "a");
    refused(STATE, over, over::runs);
    Shortsign most = typing(even.toString() + even);
    refused(STATE, most, most::runs);
  }

  static void promise49() {
    Shortsign s = typing("acbacb");
    due(6, s.unruns());
    due("aaabcc", text(s));
    Shortsign twice = typing("aaab");
    due(3, twice.unruns());
    due("aaa", text(twice));
    Shortsign odd = typing("abc");
    refused(UNSUPPORTED, odd, odd::unruns);
    Shortsign most = typing("azazazazap");
    due(120, most.unruns());
    Shortsign over = typing("azazazazaq");
    refused(STATE, over, over::unruns);
    type(over, "a");
    refused(UNSUPPORTED, over, over::unruns);
    due(0, new Shortsign().unruns());
  }

  static void promise50() {
    Shortsign s = counting(5, 9, 12, 13, 16, 45);
    s.least();
    due(2.24, s.meanLength(0));
    s.set('f', 0);
    due((224.0 - 45.0) / 55.0, s.meanLength(0));
    s.set('g', 1);
    refused(NONE, s, () -> s.meanLength(0));
    s.clear();
    refused(ARITHMETIC, s, () -> s.meanLength(0));
    refused(INDEX, s, () -> s.meanLength(1));
    refused(INDEX, s, () -> s.meanLength(-1));
  }

  static void promise51() {
    Shortsign s = new Shortsign();
    refused(ARITHMETIC, s, s::fullShare);
    s.set('a', 3);
    s.triple();
    refused(ARITHMETIC, s, s::fullShare);
    s.least();
    due(1f, s.fullShare());
    type(s, "c");
    s.byLengths();
    s.byLengths();
    due(1f / 3f, s.fullShare());
    s.wipe();
    type(s, "bcc");
    s.byLengths();
    due(0.5f, s.fullShare());
  }

  static void promise52() {
    Shortsign s = new Shortsign();
    long sum = 7;
    for (int sign = 0; sign < 26; sign++) sum *= 31;
    due(sum, s.checksum());
    type(s, "bcc");
    s.set('y', 5);
    s.byLengths();
    s.wipe();
    s.write(0);
    type(s, "cz");
    sum = 7;
    for (int sign = 0; sign < 26; sign++) sum = 31 * sum + (sign == 24 ? 5 : 0);
    sum = 31 * (31 * sum + 2) + 25;
    for (int sign = 0; sign < 26; sign++) sum = 31 * sum + (sign == 0 ? 1 : sign < 3 ? 2 : -1);
    due(sum, s.checksum());
    s.wipe();
    type(s, "b");
    s.write(0);
    sum = 7;
    for (int sign = 0; sign < 26; sign++) sum = 31 * sum + (sign == 24 ? 5 : 0);
    sum = 31 * sum + 1;
    for (int sign = 0; sign < 26; sign++) sum = 31 * sum + (sign == 0 ? 1 : sign < 3 ? 2 : -1);
    sum = 31 * (31 * sum + 1);
    due(sum, s.checksum());
  }

  static void promise53() {
    due(true, new Shortsign().isSound());
    Shortsign s = counting(1, 1, 2, 3, 5, 8, 13, 21, 34, 55, 89, 144, 233, 377, 610, 987, 1597, 2584, 4181, 6765);
    s.least();
    s.bounded(5);
    s.ordered();
    s.triple();
    type(s, "cdeeffafff");
    s.byLengths();
    s.write(0);
    long sum = s.checksum();
    due(true, s.isSound());
    due(sum, s.checksum());
    due(10, s.written());
    due("cdeeffafff", text(s));
    due(true, s.isSound());
    for (char sign = 'a'; sign <= 'z'; sign++) s.set(sign, 9999);
    due(true, s.isSound());
    due(true, twelve().isSound());
  }

  public static void main(String[] args) throws Exception {
    for (int number = 1; number <= 53; number++) {
      tested = "promise " + number;
      Method test = PromisesTest.class.getDeclaredMethod(number < 10 ? "promise0" + number : "promise" + number);
      test.invoke(null);
    }
    end("the promises hold");
  }
}
