import java.math.BigInteger;
import java.util.ArrayList;
import java.util.Arrays;
import java.util.Collections;
import java.util.Comparator;
import java.util.HashMap;
import java.util.List;
import java.util.Map;
import java.util.NoSuchElementException;
import java.util.TreeMap;
import java.util.TreeSet;

/** The document once more, word for word and without care for speed, to hold the program against. */
public final class Model {
  private static final class Words {
    final char kind;
    final TreeMap<Integer, String> words;

    Words(char kind, TreeMap<Integer, String> words) {
      this.kind = kind;
      this.words = words;
    }
  }

  private static final class Tree {
    final long weight;
    final int number;
    final List<Integer> signs = new ArrayList<>();

    Tree(long weight, int number) {
      this.weight = weight;
      this.number = number;
    }
  }

  private static final class Item {
    final long weight;
    final boolean coin;
    final int[] coins = new int[26];

    Item(long weight, boolean coin) {
      this.weight = weight;
      this.coin = coin;
    }
  }

  private List<Integer> text = new ArrayList<>();
  private int[] counts = new int[26];
  private final List<Words> codes = new ArrayList<>();
  private String stream = "";
  private int written = 0;

  // Texts and counts.

  private static int number(char sign) {
    if (sign < 'a' || sign > 'z') throw new IllegalArgumentException();
    return sign - 'a';
  }

  public int type(char sign) {
    int number = number(sign);
    if (text.size() == 120) throw new IllegalStateException();
    text.add(number);
    return text.size();
  }

  public int typeMore(int many, char a, char b, char c, char d, char e, char f, char g, char h) {
    if (many < 1 || many > 8) throw new IllegalArgumentException();
    char[] all = {a, b, c, d, e, f, g, h};
    List<Integer> more = new ArrayList<>();
    for (int i = 0; i < many; i++) more.add(number(all[i]));
    if (text.size() + many > 120) throw new IllegalStateException();
    text.addAll(more);
    return text.size();
  }

  public int wipe() {
    int had = text.size();
    text.clear();
    return had;
  }

  public int length() { return text.size(); }

  public char typed(int place) {
    if (place < 0 || place >= text.size()) throw new IndexOutOfBoundsException();
    return (char) ('a' + text.get(place));
  }

  public int set(char sign, int count) {
    int number = number(sign);
    if (count < 0 || count > 9999) throw new IllegalArgumentException();
    int old = counts[number];
    counts[number] = count;
    return old;
  }

  public int count(char sign) { return counts[number(sign)]; }

  public int take() {
    counts = countsOf(text);
    return signsOf(counts);
  }

  public int clear() {
    int sum = Arrays.stream(counts).sum();
    counts = new int[26];
    return sum;
  }

  private static int[] countsOf(List<Integer> signs) {
    int[] counts = new int[26];
    for (int sign : signs) counts[sign]++;
    return counts;
  }

  private static int signsOf(int[] counts) {
    return (int) Arrays.stream(counts).filter(c -> c > 0).count();
  }

  // Lengths and words.

  private static Tree lightest(List<Tree> trees) {
    Tree best = Collections.min(trees, Comparator.comparingLong((Tree t) -> t.weight).thenComparingInt(t -> t.number));
    trees.remove(best);
    return best;
  }

  private static TreeMap<Integer, Integer> leastLengths(int[] counts, int together) {
    TreeMap<Integer, Integer> lengths = new TreeMap<>();
    List<Tree> trees = new ArrayList<>();
    int number = 0;
    for (int sign = 0; sign < counts.length; sign++) {
      if (counts[sign] > 0) {
        Tree tree = new Tree(counts[sign], number++);
        tree.signs.add(sign);
        trees.add(tree);
        lengths.put(sign, 0);
      }
    }
    if (together == 3 && trees.size() % 2 == 0) trees.add(new Tree(0, -1));
    while (trees.size() >= 2) {
      List<Tree> taken = new ArrayList<>();
      long weight = 0;
      for (int i = 0; i < together; i++) {
        taken.add(lightest(trees));
        weight += taken.get(i).weight;
      }
      Tree joined = new Tree(weight, number++);
      for (Tree t : taken) joined.signs.addAll(t.signs);
      for (int sign : joined.signs) lengths.merge(sign, 1, Integer::sum);
      trees.add(joined);
    }
    return lengths;
  }

  private static TreeMap<Integer, Integer> shortLengths(int[] counts, int bound) {
    List<Item> row = new ArrayList<>();
    for (int round = 0; round < bound; round++) {
      List<Item> next = new ArrayList<>();
      for (int sign = 0; sign < 26; sign++) {
        if (counts[sign] > 0) {
          Item coin = new Item(counts[sign], true);
          coin.coins[sign] = 1;
          next.add(coin);
        }
      }
      for (int i = 0; i + 1 < row.size(); i += 2) {
        Item pack = new Item(row.get(i).weight + row.get(i + 1).weight, false);
        for (int sign = 0; sign < 26; sign++) pack.coins[sign] = row.get(i).coins[sign] + row.get(i + 1).coins[sign];
        next.add(pack);
      }
      next.sort(Comparator.comparingLong((Item i) -> i.weight).thenComparing(i -> !i.coin));
      row = next;
    }
    TreeMap<Integer, Integer> lengths = new TreeMap<>();
    for (int sign = 0; sign < 26; sign++) {
      if (counts[sign] > 0) {
        int length = 0;
        for (int i = 0; i < 2 * signsOf(counts) - 2; i++) length += row.get(i).coins[sign];
        lengths.put(sign, length);
      }
    }
    return lengths;
  }

  private static TreeMap<Integer, Integer> orderedLengths(int[] counts) {
    TreeMap<Integer, Integer> lengths = new TreeMap<>();
    List<Tree> row = new ArrayList<>();
    for (int sign = 0; sign < 26; sign++) {
      if (counts[sign] > 0) {
        Tree tree = new Tree(counts[sign], 0);
        tree.signs.add(sign);
        row.add(tree);
        lengths.put(sign, 0);
      }
    }
    while (row.size() >= 2) {
      int at = 1;
      while (!(at == row.size() - 1 || row.get(at + 1).weight >= row.get(at - 1).weight)) at++;
      Tree joined = new Tree(row.get(at).weight + row.get(at - 1).weight, 0);
      joined.signs.addAll(row.get(at - 1).signs);
      joined.signs.addAll(row.get(at).signs);
      for (int sign : joined.signs) lengths.merge(sign, 1, Integer::sum);
      int behind = -1;
      for (int i = 0; i < at - 1; i++) if (row.get(i).weight >= joined.weight) behind = i;
      row.remove(at);
      row.remove(at - 1);
      row.add(behind + 1, joined);
    }
    return lengths;
  }

  private static String digits(BigInteger number, int length, int base) {
    String digits = length == 0 ? "" : number.toString(base);
    while (digits.length() < length) digits = "0" + digits;
    if (digits.length() != length) throw new AssertionError("a word too long");
    return digits;
  }

  private static TreeMap<Integer, String> wordsOfLengths(Map<Integer, Integer> lengths, int base) {
    List<Integer> signs = new ArrayList<>(lengths.keySet());
    signs.sort(Comparator.comparingInt((Integer s) -> lengths.get(s)).thenComparingInt(s -> s));
    TreeMap<Integer, String> words = new TreeMap<>();
    BigInteger word = BigInteger.ZERO;
    int ahead = -1;
    for (int sign : signs) {
      int length = lengths.get(sign);
      if (ahead >= 0) word = word.add(BigInteger.ONE).multiply(BigInteger.valueOf(base).pow(length - ahead));
      words.put(sign, digits(word, length, base));
      ahead = length;
    }
    return words;
  }

  private static TreeMap<Integer, String> wordsInOrder(TreeMap<Integer, Integer> lengths) {
    TreeMap<Integer, String> words = new TreeMap<>();
    String ahead = null;
    for (int sign : lengths.keySet()) {
      int length = lengths.get(sign);
      String word = digits(BigInteger.ZERO, length, 2);
      if (ahead != null) {
        word = digits(new BigInteger("0" + ahead, 2).add(BigInteger.ONE), ahead.length(), 2);
        while (word.length() < length) word += "0";
        while (word.length() > length) {
          if (!word.endsWith("0")) throw new AssertionError("a bit left out is not 0");
          word = word.substring(0, word.length() - 1);
        }
      }
      words.put(sign, word);
      ahead = word;
    }
    return words;
  }

  // Codes.

  private int make(char kind, TreeMap<Integer, String> words) {
    if (codes.size() == 12) throw new IllegalStateException();
    codes.add(new Words(kind, words));
    return codes.size() - 1;
  }

  private void needCounts() {
    if (signsOf(counts) == 0) throw new NoSuchElementException();
  }

  private void needBound(int bound) {
    if (bound < 1 || bound > 25) throw new IllegalArgumentException();
  }

  private void needWide(int bound) {
    if (signsOf(counts) > Math.pow(2, bound)) throw new UnsupportedOperationException();
  }

  public int least() {
    needCounts();
    return make('h', wordsOfLengths(leastLengths(counts, 2), 2));
  }

  public int bounded(int bound) {
    needBound(bound);
    needCounts();
    needWide(bound);
    return make('b', wordsOfLengths(shortLengths(counts, bound), 2));
  }

  public int ordered() {
    needCounts();
    return make('o', wordsInOrder(orderedLengths(counts)));
  }

  public int triple() {
    needCounts();
    return make('t', wordsOfLengths(leastLengths(counts, 3), 3));
  }

  public int byLengths() {
    if (text.size() > 26) throw new IllegalArgumentException();
    TreeMap<Integer, Integer> lengths = new TreeMap<>();
    for (int i = 0; i < text.size(); i++) if (text.get(i) > 0) lengths.put(i, text.get(i));
    if (lengths.isEmpty()) throw new NoSuchElementException();
    double sum = 0;
    for (int length : lengths.values()) sum += Math.pow(0.5, length);
    if (sum > 1) throw new UnsupportedOperationException();
    return make('k', wordsOfLengths(lengths, 2));
  }

  public int forget() {
    int had = codes.size();
    codes.clear();
    return had;
  }

  public int codes() { return codes.size(); }

  private Words code(int code) {
    if (code < 0 || code >= codes.size()) throw new IndexOutOfBoundsException();
    return codes.get(code);
  }

  public char kindOf(int code) { return code(code).kind; }

  public int signs(int code) { return code(code).words.size(); }

  public char signAt(int code, int rank) {
    Words found = code(code);
    if (rank < 0 || rank >= found.words.size()) throw new IndexOutOfBoundsException();
    List<Integer> signs = new ArrayList<>(found.words.keySet());
    signs.sort(Comparator.comparing((Integer s) -> found.words.get(s)));
    return (char) ('a' + signs.get(rank));
  }

  public int wordLength(int code, char sign) {
    String word = code(code).words.get(number(sign));
    if (word == null) throw new NoSuchElementException();
    return word.length();
  }

  public char wordBit(int code, char sign, int place) {
    String word = code(code).words.get(number(sign));
    if (word == null || place < 0 || place >= word.length()) throw new NoSuchElementException();
    return word.charAt(place);
  }

  public int longest(int code) {
    return code(code).words.values().stream().mapToInt(String::length).max().getAsInt();
  }

  private int bitsOf(int[] counts, Map<Integer, String> words) {
    int bits = 0;
    for (int sign = 0; sign < 26; sign++) {
      if (counts[sign] > 0 && !words.containsKey(sign)) throw new NoSuchElementException();
      if (words.containsKey(sign)) bits += counts[sign] * words.get(sign).length();
    }
    return bits;
  }

  public int bits(int code) { return bitsOf(counts, code(code).words); }

  public long sum(int code) {
    Words found = code(code);
    BigInteger sum = BigInteger.ZERO;
    for (String w : found.words.values()) sum = sum.add(BigInteger.valueOf(found.kind == 't' ? 3 : 2).pow(25 - w.length()));
    return sum.longValueExact();
  }

  public int lookup(int code, int width, int bits) {
    Words found = code(code);
    if (width < 1 || width > 8 || bits < 0 || bits > Math.pow(2, width) - 1) throw new IllegalArgumentException();
    if (found.kind == 't') throw new UnsupportedOperationException();
    String row = digits(BigInteger.valueOf(bits), width, 2);
    for (int sign : found.words.keySet()) if (row.startsWith(found.words.get(sign))) return sign;
    for (String word : found.words.values()) if (word.startsWith(row)) return -1;
    return -2;
  }

  // Costs.

  private static int cost(int[] counts, Map<Integer, Integer> lengths) {
    int bits = 0;
    for (int sign : lengths.keySet()) bits += counts[sign] * lengths.get(sign);
    return bits;
  }

  public int leastBits() { return cost(counts, leastLengths(counts, 2)); }

  public int boundCost(int bound) {
    needBound(bound);
    needWide(bound);
    return cost(counts, shortLengths(counts, bound)) - leastBits();
  }

  public int orderCost() { return cost(counts, orderedLengths(counts)) - leastBits(); }

  public int blockBits(int size) {
    if (size < 1 || size > 4) throw new IllegalArgumentException();
    Map<List<Integer>, Integer> blocks = new HashMap<>();
    for (int i = 0; i < text.size(); i += size) {
      blocks.merge(new ArrayList<>(text.subList(i, Math.min(i + size, text.size()))), 1, Integer::sum);
    }
    int[] blockCounts = blocks.values().stream().mapToInt(c -> c).toArray();
    return cost(blockCounts, leastLengths(blockCounts, 2));
  }

  public int fewestFor(int bits) {
    if (bits < 1 || bits > 25) throw new IllegalArgumentException();
    int fewest = 0;
    for (int i = 0; i <= bits; i++) fewest += countFor(bits, i);
    return fewest;
  }

  public int countFor(int bits, int index) {
    if (bits < 1 || bits > 25) throw new IllegalArgumentException();
    if (index < 0 || index > bits) throw new IndexOutOfBoundsException();
    return index < 3 ? 1 : countFor(bits, index - 1) + countFor(bits, index - 2);
  }

  private static int part(List<Integer> signs) {
    int[] counts = countsOf(signs);
    return cost(counts, leastLengths(counts, 2)) + 130;
  }

  public int saved(int place) {
    if (place < 0 || place > text.size()) throw new IndexOutOfBoundsException();
    return part(text) - part(text.subList(0, place)) - part(text.subList(place, text.size()));
  }

  public int bestCut() {
    int best = 0;
    for (int place = 0; place <= text.size(); place++) if (saved(place) > saved(best)) best = place;
    return best;
  }

  // Streams.

  private static void refuseTriples(Words code) {
    if (code.kind == 't') throw new UnsupportedOperationException();
  }

  public int write(int code) {
    Words found = code(code);
    refuseTriples(found);
    StringBuilder bits = new StringBuilder();
    for (int sign : text) {
      if (!found.words.containsKey(sign)) throw new NoSuchElementException();
      bits.append(found.words.get(sign));
    }
    stream = bits.toString();
    written = text.size();
    return stream.length();
  }

  private static int signOf(Map<Integer, String> words, String bits) {
    for (int sign : words.keySet()) if (bits.startsWith(words.get(sign))) return sign;
    return -1;
  }

  public int read(int code) {
    Words found = code(code);
    refuseTriples(found);
    List<Integer> signs = new ArrayList<>();
    String left = stream;
    while (signs.size() < written && signOf(found.words, left) >= 0) {
      int sign = signOf(found.words, left);
      signs.add(sign);
      left = left.substring(found.words.get(sign).length());
    }
    text = signs;
    return text.size();
  }

  private static int[] firstCounts() {
    int[] grown = new int[27];
    grown[26] = 1;
    return grown;
  }

  private static void grow(int[] grown, int sign) {
    grown[sign]++;
    if (Arrays.stream(grown).sum() > 40) {
      for (int i = 0; i < 27; i++) if (grown[i] != 0) grown[i] = (int) Math.ceil(grown[i] / 2.0);
    }
  }

  public int writeGrowing() {
    StringBuilder bits = new StringBuilder();
    int[] grown = firstCounts();
    for (int sign : text) {
      Map<Integer, String> words = wordsOfLengths(leastLengths(grown, 2), 2);
      if (grown[sign] > 0) bits.append(words.get(sign));
      else bits.append(words.get(26)).append(digits(BigInteger.valueOf(sign), 5, 2));
      grow(grown, sign);
    }
    stream = bits.toString();
    written = text.size();
    return stream.length();
  }

  public int readGrowing() {
    List<Integer> signs = new ArrayList<>();
    int[] grown = firstCounts();
    String left = stream;
    while (signs.size() < written) {
      Map<Integer, String> words = wordsOfLengths(leastLengths(grown, 2), 2);
      int sign = signOf(words, left);
      if (sign < 0) break;
      left = left.substring(words.get(sign).length());
      if (sign == 26) {
        if (left.length() < 5) break;
        sign = Integer.parseInt(left.substring(0, 5), 2);
        if (sign > 25) break;
        left = left.substring(5);
      }
      signs.add(sign);
      grow(grown, sign);
    }
    text = signs;
    return text.size();
  }

  public int streamBits() { return stream.length(); }

  public int written() { return written; }

  private void needBit(int place) {
    if (place < 0 || place >= stream.length()) throw new IndexOutOfBoundsException();
  }

  public int bitAt(int place) {
    needBit(place);
    return stream.charAt(place) - '0';
  }

  private static String turned(String bits, int place) {
    return bits.substring(0, place) + (bits.charAt(place) == '0' ? '1' : '0') + bits.substring(place + 1);
  }

  public int turn(int place) {
    needBit(place);
    stream = turned(stream, place);
    return bitAt(place);
  }

  public int byteAt(int index) {
    if (index < 0 || 8L * index >= stream.length()) throw new IndexOutOfBoundsException();
    return Integer.parseInt((stream + "0000000").substring(8 * index, 8 * index + 8), 2);
  }

  private static TreeSet<Integer> ends(Words code, String bits) {
    TreeSet<Integer> ends = new TreeSet<>();
    int at = 0;
    while (signOf(code.words, bits.substring(at)) >= 0) {
      at += code.words.get(signOf(code.words, bits.substring(at))).length();
      ends.add(at);
    }
    return ends;
  }

  public int inStep(int code, int place) {
    Words found = code(code);
    needBit(place);
    refuseTriples(found);
    if (found.words.containsValue("")) throw new UnsupportedOperationException();
    TreeSet<Integer> both = ends(found, stream);
    both.retainAll(ends(found, turned(stream, place)));
    Integer first = both.higher(place);
    return first == null ? -1 : first;
  }

  public int lost(int code, int from) {
    Words found = code(code);
    needBit(from);
    refuseTriples(found);
    if (found.words.containsValue("")) throw new UnsupportedOperationException();
    int lost = 0;
    for (int place = from; place < from + 32 && place < stream.length(); place++) if (inStep(code, place) == -1) lost++;
    return lost;
  }

  // Ahead of coding.

  private static List<Integer> alphabet() {
    List<Integer> row = new ArrayList<>();
    for (int sign = 0; sign < 26; sign++) row.add(sign);
    return row;
  }

  public int moves() {
    List<Integer> row = alphabet();
    List<Integer> told = new ArrayList<>();
    for (Integer sign : text) {
      told.add(row.indexOf(sign));
      row.remove(sign);
      row.add(0, sign);
    }
    text = told;
    return Collections.frequency(text, 0);
  }

  public int unmoves() {
    List<Integer> row = alphabet();
    List<Integer> told = new ArrayList<>();
    for (int place : text) {
      Integer sign = row.remove(place);
      told.add(sign);
      row.add(0, sign);
    }
    text = told;
    int unlike = 0;
    for (int i = 0; i < text.size(); i++) if (i == 0 || !text.get(i).equals(text.get(i - 1))) unlike++;
    return unlike;
  }

  public int runs() {
    List<Integer> told = new ArrayList<>();
    int from = 0;
    while (from < text.size()) {
      int to = from;
      while (to < text.size() && to - from < 26 && text.get(to).equals(text.get(from))) to++;
      told.add(text.get(from));
      told.add(to - from - 1);
      from = to;
    }
    if (told.size() > 120) throw new IllegalStateException();
    text = told;
    return text.size();
  }

  public int unruns() {
    if (text.size() % 2 == 1) throw new UnsupportedOperationException();
    List<Integer> told = new ArrayList<>();
    for (int i = 0; i < text.size(); i += 2) told.addAll(Collections.nCopies(text.get(i + 1) + 1, text.get(i)));
    if (told.size() > 120) throw new IllegalStateException();
    text = told;
    return text.size();
  }

  // Figures.

  public double meanLength(int code) {
    double bits = bits(code);
    if (signsOf(counts) == 0) throw new ArithmeticException();
    return bits / Arrays.stream(counts).sum();
  }

  public float fullShare() {
    float full = 0;
    float all = 0;
    for (int code = 0; code < codes.size(); code++) {
      if (kindOf(code) != 't') {
        all++;
        if (sum(code) == 1 << 25) full++;
      }
    }
    if (all == 0) throw new ArithmeticException();
    return full / all;
  }

  public long checksum() {
    long sum = 7;
    for (int count : counts) sum = 31 * sum + count;
    for (int sign : text) sum = 31 * sum + sign;
    for (Words code : codes) {
      for (int sign = 0; sign < 26; sign++) {
        sum = 31 * sum + (code.words.containsKey(sign) ? code.words.get(sign).length() : -1);
      }
    }
    for (char bit : stream.toCharArray()) sum = 31 * sum + (bit - '0');
    return sum;
  }

  public boolean isSound() { return true; }
}
