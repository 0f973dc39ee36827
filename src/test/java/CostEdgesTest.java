/** The edges of promises 27 to 34: costs. */
public final class CostEdgesTest extends Checks {
  private static final String FULL = "abcdefghijklmnopqrstuvwxyz".repeat(5).substring(0, 120);
  private static final int[] OUT_OF_25 = {0, 26, -1, -25, 32, 33, LOWEST, HIGHEST};

  static void leastBits() {
    tested = "promise 27";
    edge("0 if no count is above 0", () -> {
      due(0, new Shortsign().leastBits());
      due(0, typing("abc").leastBits());
    });
    edge("one sign has no bits", () -> {
      due(0, counting(1).leastBits());
      due(0, counting(0, 9999).leastBits());
    });
    edge("two signs have a bit each", () -> due(10000, counting(9999, 1).leastBits()));
    edge("all counts are 9999", () -> due(1239876, countingAlike(26, 9999).leastBits()));
    edge("it makes no code", () -> {
      Shortsign s = counting(1, 2);
      due(3, s.leastBits());
      due(0, s.codes());
      due(0, twelve().leastBits());
    });
  }

  static void boundCost() {
    tested = "promise 28";
    edge("0 if no count is above 0, by each bound", () -> {
      due(0, new Shortsign().boundCost(1));
      due(0, new Shortsign().boundCost(25));
    });
    edge("bound: 1 is the least", () -> {
      due(0, counting(7).boundCost(1));
      due(0, counting(9999, 1).boundCost(1));
    });
    edge("bound: 25 is the greatest", () -> due(0, counting(5, 9, 12, 13, 16, 45).boundCost(25)));
    edge("just as many signs as 2 to the power of the bound", () -> {
      due(5, counting(1, 2, 4, 8).boundCost(2));
      due(0, countingAlike(8, 3).boundCost(3));
      due(0, countingAlike(16, 3).boundCost(4));
    });
    edge("a bound that is not reached costs none, one less does", () -> {
      due(0, counting(1, 2, 4, 8).boundCost(3));
      due(0, counting(5, 9, 12, 13, 16, 45).boundCost(4));
      due(15, counting(5, 9, 12, 13, 16, 45).boundCost(3));
    });
    edge("all counts are 9999", () -> due(0, countingAlike(26, 9999).boundCost(5)));
    edge("with 12 codes as well", () -> due(0, twelve().boundCost(1)));
    edge("IllegalArgumentException if the bound is out of range", () -> {
      for (int no : OUT_OF_25) refuses(ARGUMENT, () -> counting(1, 2), s -> s.boundCost(no));
    });
    edge("out of range, though no count is above 0", () -> {
      for (int no : OUT_OF_25) refuses(ARGUMENT, Shortsign::new, s -> s.boundCost(no));
    });
    edge("UnsupportedOperationException if more signs have a count above 0", () -> {
      for (int bound = 1; bound <= 4; bound++) {
        int no = bound;
        refuses(UNSUPPORTED, () -> countingAlike((1 << no) + 1, 7), s -> s.boundCost(no));
      }
      refuses(UNSUPPORTED, () -> countingAlike(26, 7), s -> s.boundCost(4));
    });
    edge("the bound out of range, and more signs", () -> {
      refuses(ARGUMENT, () -> countingAlike(26, 1), s -> s.boundCost(0));
      refuses(ARGUMENT, () -> countingAlike(26, 1), s -> s.boundCost(LOWEST));
    });
  }

  static void orderCost() {
    tested = "promise 29";
    edge("0 if no count is above 0", () -> due(0, new Shortsign().orderCost()));
    edge("one sign, two signs", () -> {
      due(0, counting(9999).orderCost());
      due(0, counting(1, 9999).orderCost());
    });
    edge("none more where the order costs none", () -> due(0, counting(1, 2, 4, 8).orderCost()));
    edge("three signs", () -> due(9, counting(1, 10, 1).orderCost()));
    edge("all counts are 9999", () -> due(0, countingAlike(26, 9999).orderCost()));
    edge("the greatest and the least count by turns", () -> {
      // In order all have 2 bits, 40000; in the least code c has 1, a 2, b and d 3, 30003.
      due(9997, counting(9999, 1, 9999, 1).orderCost());
    });
    edge("with 12 codes as well", () -> due(0, twelve().orderCost()));
  }

  static void blockBits() {
    tested = "promise 30";
    edge("0 if nothing is typed, by each size", () -> {
      for (int size = 1; size <= 4; size++) due(0, countingAlike(3, 5).blockBits(size));
    });
    edge("size: 1 is the least", () -> {
      due(14, typing("ababcabab").blockBits(1));
      due(0, typing("z").blockBits(1));
    });
    edge("size: 4 is the greatest", () -> {
      due(0, typing("abcd").blockBits(4));
      due(2, typing("abcde").blockBits(4));
    });
    edge("the last one perhaps of fewer: it is the only one", () -> {
      due(0, typing("z").blockBits(4));
      due(0, typing("abc").blockBits(4));
    });
    edge("the last one of fewer is like none that begins so", () -> {
      due(3, typing("aaaaa").blockBits(2));
      due(2, typing("abcab").blockBits(3));
      due(2, typing("bzz").blockBits(2));
      due(2, typing("baa").blockBits(2));
      due(3, typing("zzzzzzzzzzz").blockBits(4));
    });
    edge("the last one is full", () -> {
      due(0, typing("aaaa").blockBits(2));
      due(0, typing("abcabc").blockBits(3));
    });
    edge("blocks of like signs in another order are unlike", () -> {
      due(2, typing("abba").blockBits(2));
      due(2, typing("azza").blockBits(2));
      due(2, typing("azba").blockBits(2));
      due(3, typing("aabaaa").blockBits(2));
    });
    edge("cut from the first sign on", () -> due(5, typing("aabab").blockBits(2)));
    edge("120 signs", () -> {
      due(570, typing(FULL).blockBits(1));
      due(111, typing(FULL).blockBits(4));
      due(0, typing("z".repeat(120)).blockBits(1));
      due(0, typing("z".repeat(120)).blockBits(4));
      due(30, typing("z".repeat(119)).blockBits(4));
    });
    edge("IllegalArgumentException if the size is out of range", () -> {
      for (int no : new int[] {0, 5, -1, LOWEST, HIGHEST}) refuses(ARGUMENT, () -> typing("abcab"), s -> s.blockBits(no));
    });
    edge("out of range, though nothing is typed", () -> {
      for (int no : new int[] {0, 5, -1}) refuses(ARGUMENT, Shortsign::new, s -> s.blockBits(no));
    });
  }

  static void fewestFor() {
    tested = "promise 31";
    edge("bits: 1 is the least", () -> due(2, new Shortsign().fewestFor(1)));
    edge("bits: 2, with two counts of 1 and one more", () -> due(3, new Shortsign().fewestFor(2)));
    edge("bits: 3, where the first count is a sum", () -> due(5, new Shortsign().fewestFor(3)));
    edge("bits: 25 is the greatest", () -> {
      due(121393, new Shortsign().fewestFor(24));
      due(196418, new Shortsign().fewestFor(25));
    });
    edge("IllegalArgumentException if they are out of range", () -> {
      for (int no : OUT_OF_25) refuses(ARGUMENT, () -> typing("ab"), s -> s.fewestFor(no));
    });
    tested = "promise 32";
    edge("bits: 1 is the least", () -> {
      due(1, new Shortsign().countFor(1, 0));
      due(1, new Shortsign().countFor(1, 1));
    });
    edge("1, 1, 1, 2, 3, 5 and so on", () -> {
      int[] due = {1, 1, 1, 2, 3, 5, 8, 13};
      for (int index = 0; index < due.length; index++) due(due[index], new Shortsign().countFor(25, index));
    });
    edge("bits: 25 is the greatest, and so is the index", () -> {
      due(46368, new Shortsign().countFor(25, 24));
      due(75025, new Shortsign().countFor(25, 25));
    });
    edge("the index: 0 to the bits", () -> {
      for (int bits = 1; bits <= 25; bits++) {
        int many = bits;
        due(1, new Shortsign().countFor(many, 0));
        due(new Shortsign().countFor(25, many), new Shortsign().countFor(many, many));
        for (int no : new int[] {-1, many + 1}) refuses(INDEX, () -> typing("ab"), s -> s.countFor(many, no));
      }
    });
    edge("IllegalArgumentException if the bits are out of range", () -> {
      for (int no : OUT_OF_25) refuses(ARGUMENT, () -> typing("ab"), s -> s.countFor(no, 0));
    });
    edge("IndexOutOfBoundsException if there is no such count", () -> {
      for (int no : new int[] {-1, 5, 25, 26, LOWEST, HIGHEST}) refuses(INDEX, () -> typing("ab"), s -> s.countFor(4, no));
      for (int no : new int[] {-1, 26}) refuses(INDEX, () -> typing("ab"), s -> s.countFor(25, no));
    });
    edge("the bits out of range, and no such count", () -> {
      refuses(ARGUMENT, () -> typing("ab"), s -> s.countFor(0, 1));
      refuses(ARGUMENT, () -> typing("ab"), s -> s.countFor(0, -1));
      refuses(ARGUMENT, () -> typing("ab"), s -> s.countFor(26, 27));
    });
  }

  static void saved() {
    tested = "promise 33";
    edge("an empty row has only the place 0", () -> {
      due(-130, new Shortsign().saved(0));
      for (int no : new int[] {-1, 1, LOWEST, HIGHEST}) refuses(INDEX, Shortsign::new, s -> s.saved(no));
    });
    edge("place: 0, an empty part ahead", () -> {
      due(-130, typing("aabb").saved(0));
      due(-130, typing(FULL).saved(0));
    });
    edge("place: how many are typed, an empty part behind", () -> {
      due(-130, typing("aabb").saved(4));
      due(-130, typing(FULL).saved(120));
    });
    edge("a part of one sign, with a table of its own", () -> {
      due(4 - 3 - 130, typing("aabb").saved(1));
      due(4 - 3 - 130, typing("aabb").saved(3));
      due(-130, typing("z").saved(1));
    });
    edge("below 0, and above 0", () -> {
      due(4 - 130, typing("aabb").saved(2));
      due(240 - 60 - 60 - 130, typing("ab".repeat(30) + "cd".repeat(30)).saved(60));
      due(120 - 130, typing("a".repeat(60) + "b".repeat(60)).saved(60));
    });
    edge("IndexOutOfBoundsException if there is no such place", () -> {
      for (int no : new int[] {-1, 5, 120, LOWEST, HIGHEST}) refuses(INDEX, () -> typing("aabb"), s -> s.saved(no));
      for (int no : new int[] {-1, 121}) refuses(INDEX, () -> typing(FULL), s -> s.saved(no));
    });
    edge("the counts are those of the parts", () -> {
      Shortsign s = typing("aabb");
      s.set('z', 9999);
      due(4 - 130, s.saved(2));
      due(9999, s.clear());
    });
    tested = "promise 34";
    edge("nothing is typed", () -> due(0, new Shortsign().bestCut()));
    edge("one sign: 0 saves as much as 1", () -> due(0, typing("z").bestCut()));
    edge("all places save the same: the lowest one", () -> due(0, typing("z".repeat(120)).bestCut()));
    edge("two places save most: the lowest one", () -> due(1, typing("abba").bestCut()));
    edge("the first place, the last place within", () -> {
      due(1, typing("baaa").bestCut());
      due(3, typing("aaab").bestCut());
    });
    edge("120 signs", () -> {
      due(1, typing("b" + "a".repeat(119)).bestCut());
      due(60, typing("ab".repeat(30) + "cd".repeat(30)).bestCut());
      due(119, typing("a".repeat(119) + "b").bestCut());
    });
  }

  public static void main(String[] args) {
    leastBits();
    boundCost();
    orderCost();
    blockBits();
    fewestFor();
    saved();
    end("");
  }
}
