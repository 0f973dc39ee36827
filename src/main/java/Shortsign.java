import java.util.ArrayList;
import java.util.List;
import java.util.NoSuchElementException;

/**
 * Codes whose words begin no other one, streams of bits written and read by them or by growing counts, and what is
 * done to a text ahead of coding. Inside, a sign is always its number, 0 to 25.
 */
public final class Shortsign {
    private static final int SIGNS = 26;
    private static final int MARK = 26;
    private static final int NONE = -1;
    private static final int MOST_TYPED = 120;
    private static final int MOST_COUNT = 9999;
    private static final int MOST_CODES = 12;
    private static final int MOST_AT_ONCE = 8;
    private static final int LONGEST_WORD = 25;
    private static final int LONGEST_RUN = 26;
    private static final int LARGEST_BLOCK = 4;
    private static final int WIDEST_LOOKUP = 8;
    private static final int TABLE_BITS = 130;
    private static final int NUMBER_BITS = 5;
    private static final int MOST_GROWN = 40;
    private static final int LOST_PLACES = 32;
    private static final int BYTE_BITS = 8;
    private static final int MOST_BITS = MOST_TYPED * LONGEST_WORD;
    private static final long FULL = 1L << LONGEST_WORD;

    private static final char LEAST = 'h';
    private static final char SHORT = 'b';
    private static final char IN_ORDER = 'o';
    private static final char TRIPLES = 't';
    private static final char BY_LENGTHS = 'k';

    private final Row text;
    private final Row counts;
    private final List<Code> codeList;
    private final Row stream;
    private int writtenSigns;

    private final Forest forest;
    private final Coins coins;
    private final Growing growing;

    // Made once and used again by every call: what a call needs beside the state above.
    private final Row offered;
    private final Row front;
    private final Row lengths;
    private final Row partCounts;
    private final Row blocks;
    private final Row blockCounts;
    private final Row spareText;
    private final Row otherText;
    private final Row spareStream;

    public Shortsign() {
        text = new Row(MOST_TYPED);
        counts = new Row(SIGNS);
        codeList = new ArrayList<>();
        stream = new Row(MOST_BITS);
        writtenSigns = 0;
        forest = new Forest();
        coins = new Coins();
        growing = new Growing();
        offered = new Row(MOST_AT_ONCE);
        front = new Row(SIGNS);
        lengths = new Row(SIGNS);
        partCounts = new Row(SIGNS);
        blocks = new Row(MOST_TYPED);
        blockCounts = new Row(MOST_TYPED);
        spareText = new Row(2 * MOST_TYPED);
        otherText = new Row(MOST_TYPED);
        spareStream = new Row(MOST_BITS);
        counts.fill(SIGNS, 0);
        lengths.fill(SIGNS, NONE);
    }

    // Texts and counts.

    public int type(char sign) throws IllegalArgumentException, IllegalStateException {
        int number = numberOf(sign);
        needRoomFor(1);
        text.add(number);
        return text.size();
    }

    public int typeMore(int many, char a, char b, char c, char d, char e, char f, char g, char h)
            throws IllegalArgumentException, IllegalStateException {
        if (many < 1 || many > MOST_AT_ONCE) {
            throw new IllegalArgumentException("not 1 to 8 signs");
        }
        offered.empty();
        offered.add(a);
        offered.add(b);
        offered.add(c);
        offered.add(d);
        offered.add(e);
        offered.add(f);
        offered.add(g);
        offered.add(h);
        for (int i = 0; i < many; i++) {
            offered.put(i, numberOf((char) offered.at(i)));
        }
        needRoomFor(many);
        for (int i = 0; i < many; i++) {
            text.add(offered.at(i));
        }
        return text.size();
    }

    public int wipe() {
        int had = text.size();
        text.empty();
        return had;
    }

    public int length() {
        return text.size();
    }

    public char typed(int place) throws IndexOutOfBoundsException {
        if (place < 0 || place >= text.size()) {
            throw new IndexOutOfBoundsException("no sign is typed there");
        }
        return signOf(text.at(place));
    }

    public int set(char sign, int count) throws IllegalArgumentException {
        int number = numberOf(sign);
        if (count < 0 || count > MOST_COUNT) {
            throw new IllegalArgumentException("not a count from 0 to 9999");
        }
        int ahead = counts.at(number);
        counts.put(number, count);
        return ahead;
    }

    public int count(char sign) throws IllegalArgumentException {
        return counts.at(numberOf(sign));
    }

    public int take() {
        countPart(0, text.size(), counts);
        return countedSigns();
    }

    public int clear() {
        int had = counts.total();
        counts.fill(SIGNS, 0);
        return had;
    }

    // Codes.

    public int least() throws NoSuchElementException, IllegalStateException {
        needCounts();
        needRoomForCode();
        leastLengths(false);
        return keepByLengths(LEAST);
    }

    public int bounded(int bound) throws IllegalArgumentException, NoSuchElementException,
            UnsupportedOperationException, IllegalStateException {
        needBound(bound);
        needCounts();
        needWideBound(bound);
        needRoomForCode();
        coins.measure(counts, bound, lengths);
        return keepByLengths(SHORT);
    }

    public int ordered() throws NoSuchElementException, IllegalStateException {
        needCounts();
        needRoomForCode();
        forest.joinInOrder(counts);
        forest.measure(lengths);
        Code code = new Code(IN_ORDER, SIGNS);
        code.lengths.copyOf(lengths);
        code.layBySigns();
        return keep(code);
    }

    public int triple() throws NoSuchElementException, IllegalStateException {
        needCounts();
        needRoomForCode();
        leastLengths(true);
        return keepByLengths(TRIPLES);
    }

    public int byLengths() throws IllegalArgumentException, NoSuchElementException, UnsupportedOperationException,
            IllegalStateException {
        if (text.size() > SIGNS) {
            throw new IllegalArgumentException("more lengths than signs");
        }
        lengths.fill(SIGNS, NONE);
        for (int sign = 0; sign < text.size(); sign++) {
            if (text.at(sign) > 0) {
                lengths.put(sign, text.at(sign));
            }
        }
        Code code = new Code(BY_LENGTHS, SIGNS);
        code.lengths.copyOf(lengths);
        if (code.signsWithWord() == 0) {
            throw new NoSuchElementException("no length is above 0");
        }
        if (code.share() > FULL) {
            throw new UnsupportedOperationException("there are no words of these lengths");
        }
        needRoomForCode();
        code.layByLengths();
        return keep(code);
    }

    public int forget() {
        int had = codeList.size();
        codeList.clear();
        return had;
    }

    public int codes() {
        return codeList.size();
    }

    public char kindOf(int code) throws IndexOutOfBoundsException {
        return codeAt(code).kind;
    }

    public int signs(int code) throws IndexOutOfBoundsException {
        return codeAt(code).signsWithWord();
    }

    public char signAt(int code, int rank) throws IndexOutOfBoundsException {
        Code found = codeAt(code);
        if (rank < 0 || rank >= found.signsWithWord()) {
            throw new IndexOutOfBoundsException("no such rank");
        }
        return signOf(found.signOfRank(rank));
    }

    public int wordLength(int code, char sign)
            throws IndexOutOfBoundsException, IllegalArgumentException, NoSuchElementException {
        int length = codeAt(code).lengths.at(numberOf(sign));
        if (length < 0) {
            throw new NoSuchElementException("the sign has no word");
        }
        return length;
    }

    public char wordBit(int code, char sign, int place)
            throws IndexOutOfBoundsException, IllegalArgumentException, NoSuchElementException {
        Code found = codeAt(code);
        int number = numberOf(sign);
        if (place < 0 || place >= found.lengths.at(number)) {
            throw new NoSuchElementException("no word, or no such place in it");
        }
        return (char) ('0' + found.digit(number, place));
    }

    public int longest(int code) throws IndexOutOfBoundsException {
        return codeAt(code).longestLength();
    }

    public int bits(int code) throws IndexOutOfBoundsException, NoSuchElementException {
        Code found = codeAt(code);
        needWordsForCounts(found);
        return costOf(found.lengths);
    }

    public long sum(int code) throws IndexOutOfBoundsException {
        return codeAt(code).share();
    }

    public int lookup(int code, int width, int bits)
            throws IndexOutOfBoundsException, IllegalArgumentException, UnsupportedOperationException {
        Code found = codeAt(code);
        if (width < 1 || width > WIDEST_LOOKUP) {
            throw new IllegalArgumentException("not a width from 1 to 8");
        }
        if (bits < 0 || bits >= 1 << width) {
            throw new IllegalArgumentException("not bits of this width");
        }
        refuseTriples(found);
        int sign = found.signBeginning(bits, width);
        if (sign >= 0) {
            return sign;
        }
        return found.someWordBeginsWith(bits, width) ? -1 : -2;
    }

    // Costs.

    public int leastBits() {
        forest.joinLightest(counts, false);
        return forest.joinedWeight();
    }

    public int boundCost(int bound) throws IllegalArgumentException, UnsupportedOperationException {
        needBound(bound);
        needWideBound(bound);
        return boundedBits(bound) - leastBits();
    }

    public int orderCost() {
        return orderedBits() - leastBits();
    }

    public int blockBits(int size) throws IllegalArgumentException {
        if (size < 1 || size > LARGEST_BLOCK) {
            throw new IllegalArgumentException("not a size from 1 to 4");
        }
        blocks.empty();
        blockCounts.empty();
        for (int from = 0; from < text.size(); from += size) {
            countBlock(blockFrom(from, size));
        }
        forest.joinLightest(blockCounts, false);
        return forest.joinedWeight();
    }

    public int fewestFor(int bits) throws IllegalArgumentException {
        needWordBits(bits);
        int fewest = 0;
        for (int index = 0; index <= bits; index++) {
            fewest += steepCount(index);
        }
        return fewest;
    }

    public int countFor(int bits, int index) throws IllegalArgumentException, IndexOutOfBoundsException {
        needWordBits(bits);
        if (index < 0 || index > bits) {
            throw new IndexOutOfBoundsException("no such count");
        }
        return steepCount(index);
    }

    public int saved(int place) throws IndexOutOfBoundsException {
        if (place < 0 || place > text.size()) {
            throw new IndexOutOfBoundsException("no such place to cut");
        }
        return partBits(0, text.size()) - cutBits(place);
    }

    public int bestCut() {
        int best = 0;
        int fewest = cutBits(0);
        for (int place = 1; place <= text.size(); place++) {
            int bits = cutBits(place);
            if (bits < fewest) {
                fewest = bits;
                best = place;
            }
        }
        return best;
    }

    // Streams.

    public int write(int code) throws IndexOutOfBoundsException, UnsupportedOperationException,
            NoSuchElementException {
        Code found = codeAt(code);
        refuseTriples(found);
        if (!found.hasWordsFor(text)) {
            throw new NoSuchElementException("a typed sign has no word");
        }
        layText(found, stream);
        writtenSigns = text.size();
        return stream.size();
    }

    public int read(int code) throws IndexOutOfBoundsException, UnsupportedOperationException {
        Code found = codeAt(code);
        refuseTriples(found);
        gatherText(found, stream, writtenSigns, spareText);
        text.copyOf(spareText);
        return text.size();
    }

    public int writeGrowing() {
        growing.lay(text, stream);
        writtenSigns = text.size();
        return stream.size();
    }

    public int readGrowing() {
        growing.gather(stream, writtenSigns, spareText);
        text.copyOf(spareText);
        return text.size();
    }

    public int streamBits() {
        return stream.size();
    }

    public int written() {
        return writtenSigns;
    }

    public int bitAt(int place) throws IndexOutOfBoundsException {
        needBit(place);
        return stream.at(place);
    }

    public int turn(int place) throws IndexOutOfBoundsException {
        needBit(place);
        stream.put(place, 1 - stream.at(place));
        return stream.at(place);
    }

    public int byteAt(int index) throws IndexOutOfBoundsException {
        if (index < 0 || index >= (stream.size() + BYTE_BITS - 1) / BYTE_BITS) {
            throw new IndexOutOfBoundsException("no such byte");
        }
        return numberFrom(stream, index * BYTE_BITS, BYTE_BITS);
    }

    public int inStep(int code, int place) throws IndexOutOfBoundsException, UnsupportedOperationException {
        Code found = codeAt(code);
        needBit(place);
        refuseTriples(found);
        refuseEmptyWord(found);
        return stepBehind(found, lastEnd(found, 0, place), place);
    }

    public int lost(int code, int from) throws IndexOutOfBoundsException, UnsupportedOperationException {
        Code found = codeAt(code);
        needBit(from);
        refuseTriples(found);
        refuseEmptyWord(found);
        int lost = 0;
        int end = 0;
        for (int place = from; place < from + LOST_PLACES && place < stream.size(); place++) {
            end = lastEnd(found, end, place);
            if (stepBehind(found, end, place) < 0) {
                lost++;
            }
        }
        return lost;
    }

    // Ahead of coding.

    public int moves() {
        tellMoves(text, spareText);
        text.copyOf(spareText);
        return text.timesOf(0);
    }

    public int unmoves() {
        undoMoves(text, spareText);
        text.copyOf(spareText);
        int unlike = 0;
        for (int place = 0; place < text.size(); place++) {
            if (place == 0 || text.at(place) != text.at(place - 1)) {
                unlike++;
            }
        }
        return unlike;
    }

    public int runs() throws IllegalStateException {
        tellRuns(spareText);
        if (spareText.size() > MOST_TYPED) {
            throw new IllegalStateException("the runs are more than 120 signs");
        }
        text.copyOf(spareText);
        return text.size();
    }

    public int unruns() throws UnsupportedOperationException, IllegalStateException {
        if (text.size() % 2 != 0) {
            throw new UnsupportedOperationException("an odd number of signs is typed");
        }
        int total = 0;
        for (int place = 1; place < text.size(); place += 2) {
            total += text.at(place) + 1;
        }
        if (total > MOST_TYPED) {
            throw new IllegalStateException("the runs tell more than 120 signs");
        }
        undoRuns(spareText);
        text.copyOf(spareText);
        return text.size();
    }

    // Figures.

    public double meanLength(int code) throws IndexOutOfBoundsException, NoSuchElementException,
            ArithmeticException {
        Code found = codeAt(code);
        needWordsForCounts(found);
        int total = counts.total();
        if (total == 0) {
            throw new ArithmeticException("no count is above 0");
        }
        return (double) costOf(found.lengths) / (double) total;
    }

    public float fullShare() throws ArithmeticException {
        int full = 0;
        int all = 0;
        for (int number = 0; number < codeList.size(); number++) {
            Code code = codeList.get(number);
            if (!code.hasTriples()) {
                all++;
                full += code.share() == FULL ? 1 : 0;
            }
        }
        if (all == 0) {
            throw new ArithmeticException("there are no codes without triples");
        }
        return (float) full / (float) all;
    }

    public long checksum() {
        long sum = counts.addTo(7);
        sum = text.addTo(sum);
        for (int number = 0; number < codeList.size(); number++) {
            sum = codeList.get(number).lengths.addTo(sum);
        }
        return stream.addTo(sum);
    }

    public boolean isSound() {
        for (int number = 0; number < codeList.size(); number++) {
            if (!codeIsSound(codeList.get(number))) {
                return false;
            }
        }
        return costsAreSound() && comesBackFromMoves() && comesBackFromGrowing();
    }

    // What the calls refuse.

    private static int numberOf(char sign) {
        if (sign < 'a' || sign > 'z') {
            throw new IllegalArgumentException("no such sign");
        }
        return sign - 'a';
    }

    private static char signOf(int number) {
        return (char) ('a' + number);
    }

    private void needRoomFor(int many) {
        if (text.size() + many > MOST_TYPED) {
            throw new IllegalStateException("more than 120 signs would be typed");
        }
    }

    private void needCounts() {
        if (countedSigns() == 0) {
            throw new NoSuchElementException("no count is above 0");
        }
    }

    private void needRoomForCode() {
        if (codeList.size() >= MOST_CODES) {
            throw new IllegalStateException("there are 12 codes");
        }
    }

    private static void needBound(int bound) {
        if (bound < 1 || bound > LONGEST_WORD) {
            throw new IllegalArgumentException("not a bound from 1 to 25");
        }
    }

    private void needWideBound(int bound) {
        if (countedSigns() > 1 << bound) {
            throw new UnsupportedOperationException("more signs than words of this length");
        }
    }

    private static void needWordBits(int bits) {
        if (bits < 1 || bits > LONGEST_WORD) {
            throw new IllegalArgumentException("not 1 to 25 bits");
        }
    }

    private void needBit(int place) {
        if (place < 0 || place >= stream.size()) {
            throw new IndexOutOfBoundsException("no such place in the stream");
        }
    }

    private Code codeAt(int number) {
        if (number < 0 || number >= codeList.size()) {
            throw new IndexOutOfBoundsException("no such code");
        }
        return codeList.get(number);
    }

    private static void refuseTriples(Code code) {
        if (code.hasTriples()) {
            throw new UnsupportedOperationException("a code with triples");
        }
    }

    private static void refuseEmptyWord(Code code) {
        if (code.lengths.timesOf(0) > 0) {
            throw new UnsupportedOperationException("a code with the empty word");
        }
    }

    private void needWordsForCounts(Code code) {
        for (int sign = 0; sign < SIGNS; sign++) {
            if (counts.at(sign) > 0 && code.lengths.at(sign) < 0) {
                throw new NoSuchElementException("a sign with a count has no word");
            }
        }
    }

    // Lengths and costs.

    private int countedSigns() {
        return SIGNS - counts.timesOf(0);
    }

    private void countPart(int from, int to, Row into) {
        into.fill(SIGNS, 0);
        for (int place = from; place < to; place++) {
            int sign = text.at(place);
            into.put(sign, into.at(sign) + 1);
        }
    }

    private void leastLengths(boolean triples) {
        forest.joinLightest(counts, triples);
        forest.measure(lengths);
    }

    private int costOf(Row wordLengths) {
        int bits = 0;
        for (int sign = 0; sign < SIGNS; sign++) {
            bits += counts.at(sign) * wordLengths.at(sign);
        }
        return bits;
    }

    private int boundedBits(int bound) {
        coins.measure(counts, bound, lengths);
        return costOf(lengths);
    }

    private int orderedBits() {
        forest.joinInOrder(counts);
        return forest.joinedWeight();
    }

    private int partBits(int from, int to) {
        countPart(from, to, partCounts);
        forest.joinLightest(partCounts, false);
        return forest.joinedWeight() + TABLE_BITS;
    }

    private int cutBits(int place) {
        return partBits(0, place) + partBits(place, text.size());
    }

    /** A number for a block that no other block has, a shorter one neither: no digit of it is 0. */
    private int blockFrom(int from, int size) {
        int block = 0;
        for (int place = from; place < from + size && place < text.size(); place++) {
            block = block * (SIGNS + 1) + text.at(place) + 1;
        }
        return block;
    }

    private void countBlock(int block) {
        int known = blocks.placeOf(block);
        if (known < 0) {
            blocks.add(block);
            blockCounts.add(1);
        } else {
            blockCounts.put(known, blockCounts.at(known) + 1);
        }
    }

    private static int steepCount(int index) {
        int ahead = 1;
        int count = 1;
        for (int next = 3; next <= index; next++) {
            int sum = ahead + count;
            ahead = count;
            count = sum;
        }
        return count;
    }

    private int keepByLengths(char kind) {
        Code code = new Code(kind, SIGNS);
        code.lengths.copyOf(lengths);
        code.layByLengths();
        return keep(code);
    }

    private int keep(Code code) {
        codeList.add(code);
        return codeList.size() - 1;
    }

    // Streams.

    private void layText(Code code, Row into) {
        into.empty();
        for (int place = 0; place < text.size(); place++) {
            code.layWord(text.at(place), into);
        }
    }

    private static void gatherText(Code code, Row from, int many, Row into) {
        into.empty();
        int place = 0;
        for (int round = 0; round < many; round++) {
            int sign = code.signAhead(from, place, NONE);
            if (sign < 0) {
                return;
            }
            into.add(sign);
            place += code.lengths.at(sign);
        }
    }

    private static int numberFrom(Row bits, int place, int width) {
        int number = 0;
        for (int i = 0; i < width; i++) {
            number = 2 * number + bits.at(place + i);
        }
        return number;
    }

    private int nextEnd(Code code, int end, int turned) {
        int sign = code.signAhead(stream, end, turned);
        return sign < 0 ? NONE : end + code.lengths.at(sign);
    }

    /** The last end of a word, from a known one on, that a turned bit at the place can't change. */
    private int lastEnd(Code code, int from, int place) {
        int end = from;
        for (int round = from; round < place; round++) {
            int next = nextEnd(code, end, NONE);
            if (next < 0 || next > place) {
                return end;
            }
            end = next;
        }
        return end;
    }

    private int stepBehind(Code code, int end, int place) {
        int plain = end;
        int turned = end;
        for (int round = 0; round < 2 * MOST_BITS; round++) {
            if (plain <= turned) {
                plain = nextEnd(code, plain, NONE);
            } else {
                turned = nextEnd(code, turned, place);
            }
            if (plain < 0 || turned < 0) {
                return NONE;
            }
            if (plain == turned && plain > place) {
                return plain;
            }
        }
        return NONE;
    }

    // Ahead of coding.

    private void layFront() {
        front.empty();
        for (int sign = 0; sign < SIGNS; sign++) {
            front.add(sign);
        }
    }

    private void bringToFront(int place) {
        int sign = front.at(place);
        front.drop(place);
        front.insert(0, sign);
    }

    private void tellMoves(Row from, Row into) {
        into.empty();
        layFront();
        for (int i = 0; i < from.size(); i++) {
            int place = front.placeOf(from.at(i));
            into.add(place);
            bringToFront(place);
        }
    }

    private void undoMoves(Row from, Row into) {
        into.empty();
        layFront();
        for (int i = 0; i < from.size(); i++) {
            into.add(front.at(from.at(i)));
            bringToFront(from.at(i));
        }
    }

    private void tellRuns(Row into) {
        into.empty();
        int run = 0;
        for (int place = 0; place < text.size(); place++) {
            run++;
            boolean ends = place + 1 == text.size() || text.at(place + 1) != text.at(place);
            if (ends || run == LONGEST_RUN) {
                into.add(text.at(place));
                into.add(run - 1);
                run = 0;
            }
        }
    }

    private void undoRuns(Row into) {
        into.empty();
        for (int place = 0; place + 1 < text.size(); place += 2) {
            for (int i = 0; i <= text.at(place + 1); i++) {
                into.add(text.at(place));
            }
        }
    }

    // Soundness.

    private boolean codeIsSound(Code code) {
        boolean mustBeFull = code.kind == LEAST || code.kind == SHORT || code.kind == IN_ORDER;
        return code.wordsAreApart() && (!mustBeFull || code.share() == FULL) && comesBackBy(code);
    }

    private boolean comesBackBy(Code code) {
        if (code.hasTriples() || !code.hasWordsFor(text)) {
            return true;
        }
        layText(code, spareStream);
        gatherText(code, spareStream, text.size(), spareText);
        return text.isLike(spareText);
    }

    private boolean costsAreSound() {
        int signs = countedSigns();
        if (signs == 0) {
            return true;
        }
        int least = leastBits();
        if (orderedBits() < least) {
            return false;
        }
        int shorter = NONE;
        for (int bound = 1; bound <= LONGEST_WORD; bound++) {
            if (signs <= 1 << bound) {
                int bits = boundedBits(bound);
                if (bits < least || shorter >= 0 && bits > shorter) {
                    return false;
                }
                shorter = bits;
            }
        }
        return true;
    }

    private boolean comesBackFromMoves() {
        tellMoves(text, otherText);
        undoMoves(otherText, spareText);
        return text.isLike(spareText);
    }

    private boolean comesBackFromGrowing() {
        growing.lay(text, spareStream);
        growing.gather(spareStream, text.size(), spareText);
        return text.isLike(spareText);
    }

    /**
     * A row of whole numbers. It looks at every place before its array does: beyond its numbers it answers 0, and
     * beyond its room it leaves off, so that no state of the program makes the machine throw.
     */
    private static final class Row {
        private final int[] cells;
        private int used;

        Row(int room) {
            cells = new int[Math.max(0, room)];
            used = 0;
        }

        int size() {
            return used;
        }

        int at(int place) {
            return place >= 0 && place < used && place < cells.length ? cells[place] : 0;
        }

        void put(int place, int value) {
            if (place >= 0 && place < used && place < cells.length) {
                cells[place] = value;
            }
        }

        void add(int value) {
            if (used >= 0 && used < cells.length) {
                cells[used] = value;
                used++;
            }
        }

        void insert(int place, int value) {
            add(0);
            for (int i = used - 1; i > place && i > 0; i--) {
                put(i, at(i - 1));
            }
            put(place, value);
        }

        void drop(int place) {
            if (place >= 0 && place < used) {
                for (int i = place; i < used - 1; i++) {
                    put(i, at(i + 1));
                }
                used--;
            }
        }

        void empty() {
            used = 0;
        }

        void fill(int many, int value) {
            used = Math.max(0, Math.min(many, cells.length));
            for (int i = 0; i < used; i++) {
                put(i, value);
            }
        }

        void copyOf(Row other) {
            empty();
            for (int i = 0; i < other.size(); i++) {
                add(other.at(i));
            }
        }

        boolean isLike(Row other) {
            if (used != other.size()) {
                return false;
            }
            for (int i = 0; i < used; i++) {
                if (at(i) != other.at(i)) {
                    return false;
                }
            }
            return true;
        }

        int placeOf(int value) {
            for (int i = 0; i < used; i++) {
                if (at(i) == value) {
                    return i;
                }
            }
            return NONE;
        }

        int timesOf(int value) {
            int times = 0;
            for (int i = 0; i < used; i++) {
                times += at(i) == value ? 1 : 0;
            }
            return times;
        }

        int total() {
            int total = 0;
            for (int i = 0; i < used; i++) {
                total += at(i);
            }
            return total;
        }

        long addTo(long sum) {
            long added = sum;
            for (int i = 0; i < used; i++) {
                added = 31 * added + at(i);
            }
            return added;
        }

        /** Takes the places of another row where it is above 0, by rising values, of like ones by rising places. */
        void sortPlacesOf(Row values) {
            empty();
            for (int place = 0; place < values.size(); place++) {
                if (values.at(place) > 0) {
                    add(place);
                    int rank = used - 1;
                    while (rank > 0 && values.at(at(rank - 1)) > values.at(place)) {
                        put(rank, at(rank - 1));
                        rank--;
                    }
                    put(rank, place);
                }
            }
        }
    }

    /** The words of a code, as numbers of so many digits; the length of a sign without a word is NONE. */
    private static final class Code {
        private final char kind;
        private final Row lengths;
        private final Row words;

        Code(char kind, int signs) {
            this.kind = kind;
            lengths = new Row(signs);
            words = new Row(signs);
            lengths.fill(signs, NONE);
            words.fill(signs, 0);
        }

        boolean hasTriples() {
            return kind == TRIPLES;
        }

        int signsWithWord() {
            return lengths.size() - lengths.timesOf(NONE);
        }

        int longestLength() {
            int longest = 0;
            for (int sign = 0; sign < lengths.size(); sign++) {
                longest = Math.max(longest, lengths.at(sign));
            }
            return longest;
        }

        boolean hasWordsFor(Row signs) {
            for (int i = 0; i < signs.size(); i++) {
                if (lengths.at(signs.at(i)) < 0) {
                    return false;
                }
            }
            return true;
        }

        private long withDigits(long word, int more) {
            long longer = word;
            for (int i = 0; i < more; i++) {
                longer *= hasTriples() ? 3 : 2;
            }
            return longer;
        }

        private int withoutDigits(int word, int fewer) {
            int shorter = word;
            for (int i = 0; i < fewer; i++) {
                shorter = hasTriples() ? shorter / 3 : shorter / 2;
            }
            return shorter;
        }

        void layByLengths() {
            int longest = longestLength();
            int word = 0;
            for (int length = 0; length <= longest; length++) {
                for (int sign = 0; sign < lengths.size(); sign++) {
                    if (lengths.at(sign) == length) {
                        words.put(sign, word);
                        word++;
                    }
                }
                word *= hasTriples() ? 3 : 2;
            }
        }

        void layBySigns() {
            int word = 0;
            int ahead = NONE;
            for (int sign = 0; sign < lengths.size(); sign++) {
                int length = lengths.at(sign);
                if (length >= 0) {
                    if (ahead >= 0) {
                        word = length >= ahead ? (word + 1) << (length - ahead) : (word + 1) >> (ahead - length);
                    }
                    words.put(sign, word);
                    ahead = length;
                }
            }
        }

        int digit(int sign, int place) {
            int word = withoutDigits(words.at(sign), lengths.at(sign) - 1 - place);
            return hasTriples() ? word % 3 : word % 2;
        }

        long share() {
            long sum = 0;
            for (int sign = 0; sign < lengths.size(); sign++) {
                if (lengths.at(sign) >= 0) {
                    sum += withDigits(1, LONGEST_WORD - lengths.at(sign));
                }
            }
            return sum;
        }

        /** Words of one length are in order as texts just as they are as numbers; so all are drawn out to one. */
        int signOfRank(int rank) {
            long past = NONE;
            int found = NONE;
            for (int i = 0; i <= rank; i++) {
                found = signBehind(past);
                if (found < 0) {
                    return NONE;
                }
                past = drawnOut(found);
            }
            return found;
        }

        private long drawnOut(int sign) {
            return withDigits(words.at(sign), LONGEST_WORD - lengths.at(sign));
        }

        private int signBehind(long past) {
            int found = NONE;
            long lowest = 0;
            for (int sign = 0; sign < lengths.size(); sign++) {
                if (lengths.at(sign) >= 0) {
                    long word = drawnOut(sign);
                    if (word > past && (found < 0 || word < lowest)) {
                        found = sign;
                        lowest = word;
                    }
                }
            }
            return found;
        }

        int signBeginning(int bits, int width) {
            for (int sign = 0; sign < lengths.size(); sign++) {
                int length = lengths.at(sign);
                if (length >= 0 && length <= width && bits >> (width - length) == words.at(sign)) {
                    return sign;
                }
            }
            return NONE;
        }

        boolean someWordBeginsWith(int bits, int width) {
            for (int sign = 0; sign < lengths.size(); sign++) {
                int length = lengths.at(sign);
                if (length >= width && words.at(sign) >> (length - width) == bits) {
                    return true;
                }
            }
            return false;
        }

        void layWord(int sign, Row into) {
            for (int left = lengths.at(sign) - 1; left >= 0; left--) {
                into.add(words.at(sign) >> left & 1);
            }
        }

        /** The sign whose word begins the bits from the place on, as if the one at the turned place was another. */
        int signAhead(Row stream, int place, int turned) {
            int width = Math.min(LONGEST_WORD, stream.size() - place);
            int bits = numberFrom(stream, place, width);
            if (turned >= place && turned < place + width) {
                bits ^= 1 << (place + width - 1 - turned);
            }
            return signBeginning(bits, width);
        }

        boolean wordsAreApart() {
            for (int sign = 0; sign < lengths.size(); sign++) {
                for (int other = 0; other < lengths.size(); other++) {
                    if (sign != other && begins(sign, other)) {
                        return false;
                    }
                }
            }
            return true;
        }

        private boolean begins(int sign, int other) {
            int length = lengths.at(sign);
            int longer = lengths.at(other) - length;
            return length >= 0 && longer >= 0 && withoutDigits(words.at(other), longer) == words.at(sign);
        }
    }

    /** Trees that are joined till one is left; those of single signs have the first numbers, joined ones the next. */
    private static final class Forest {
        private final Row owners;
        private final Row weights;
        private final Row parents;
        private final Row depths;
        private final Row line;
        private int nextSingle;
        private int nextJoined;

        Forest() {
            owners = new Row(MOST_TYPED);
            weights = new Row(2 * MOST_TYPED);
            parents = new Row(2 * MOST_TYPED);
            depths = new Row(2 * MOST_TYPED);
            line = new Row(MOST_TYPED);
            nextSingle = 0;
            nextJoined = 0;
        }

        /**
         * Single trees stand by rising weights, and joined ones come by rising weights of their own accord: so the
         * lightest tree is always the first of the ones or of the others, and of like ones a single one.
         */
        void joinLightest(Row counts, boolean triples) {
            owners.sortPlacesOf(counts);
            if (triples && owners.size() % 2 == 0) {
                owners.insert(0, NONE);
            }
            plant(counts);
            nextSingle = 0;
            nextJoined = owners.size();
            int together = triples ? 3 : 2;
            for (int trees = owners.size(); trees > 1; trees = trees - together + 1) {
                int weight = 0;
                for (int i = 0; i < together; i++) {
                    int tree = takeLightest();
                    weight += weights.at(tree);
                    parents.put(tree, weights.size());
                }
                weights.add(weight);
                parents.add(NONE);
            }
        }

        private void plant(Row counts) {
            weights.empty();
            parents.empty();
            for (int tree = 0; tree < owners.size(); tree++) {
                weights.add(counts.at(owners.at(tree)));
                parents.add(NONE);
            }
        }

        private int takeLightest() {
            boolean singleLeft = nextSingle < owners.size();
            boolean joinedLeft = nextJoined < weights.size();
            if (singleLeft && (!joinedLeft || weights.at(nextSingle) <= weights.at(nextJoined))) {
                nextSingle++;
                return nextSingle - 1;
            }
            nextJoined++;
            return nextJoined - 1;
        }

        void joinInOrder(Row counts) {
            owners.empty();
            for (int sign = 0; sign < counts.size(); sign++) {
                if (counts.at(sign) > 0) {
                    owners.add(sign);
                }
            }
            plant(counts);
            line.empty();
            for (int tree = 0; tree < owners.size(); tree++) {
                line.add(tree);
            }
            for (int trees = owners.size(); trees > 1; trees--) {
                joinInLine(firstToJoin());
            }
        }

        private int weightInLine(int place) {
            return weights.at(line.at(place));
        }

        private int firstToJoin() {
            for (int place = 1; place + 1 < line.size(); place++) {
                if (weightInLine(place + 1) >= weightInLine(place - 1)) {
                    return place;
                }
            }
            return line.size() - 1;
        }

        private void joinInLine(int place) {
            int joined = weights.size();
            int weight = weightInLine(place - 1) + weightInLine(place);
            weights.add(weight);
            parents.add(NONE);
            parents.put(line.at(place - 1), joined);
            parents.put(line.at(place), joined);
            line.drop(place);
            line.drop(place - 1);
            int behind = place - 1;
            while (behind > 0 && weightInLine(behind - 1) < weight) {
                behind--;
            }
            line.insert(behind, joined);
        }

        /** Each tree was joined into one with a higher number, so from the last one down the depths are known. */
        void measure(Row lengths) {
            depths.fill(weights.size(), 0);
            for (int tree = weights.size() - 2; tree >= 0; tree--) {
                depths.put(tree, depths.at(parents.at(tree)) + 1);
            }
            lengths.fill(lengths.size(), NONE);
            for (int tree = 0; tree < owners.size(); tree++) {
                lengths.put(owners.at(tree), depths.at(tree));
            }
        }

        /** The bits of the code of the trees: each joined tree puts one bit ahead of all that it has within. */
        int joinedWeight() {
            int weight = 0;
            for (int tree = owners.size(); tree < weights.size(); tree++) {
                weight += weights.at(tree);
            }
            return weight;
        }
    }

    /** The rounds of coins and packages behind the short codes. */
    private static final class Coins {
        private static final int ROW_ROOM = 2 * SIGNS;

        private final Row owners;
        private final Row ahead;
        private final Row row;
        private final Row coinsWithin;

        Coins() {
            owners = new Row(SIGNS);
            ahead = new Row(ROW_ROOM);
            row = new Row(ROW_ROOM);
            coinsWithin = new Row(LONGEST_WORD * ROW_ROOM);
        }

        void measure(Row counts, int bound, Row lengths) {
            owners.sortPlacesOf(counts);
            row.empty();
            coinsWithin.fill(bound * ROW_ROOM, 0);
            for (int round = 0; round < bound; round++) {
                ahead.copyOf(row);
                layRow(counts, round);
            }
            lengths.fill(SIGNS, NONE);
            for (int i = 0; i < owners.size(); i++) {
                lengths.put(owners.at(i), 0);
            }
            countTaken(bound, lengths);
        }

        private int packageWeight(int number) {
            return ahead.at(2 * number) + ahead.at(2 * number + 1);
        }

        /** Of each beginning of the row it is kept how many coins are in it: they are always the lightest ones. */
        private void layRow(Row counts, int round) {
            row.empty();
            int packages = ahead.size() / 2;
            int coin = 0;
            int pack = 0;
            while (coin < owners.size() || pack < packages) {
                int weight = counts.at(owners.at(coin));
                if (pack >= packages || coin < owners.size() && weight <= packageWeight(pack)) {
                    row.add(weight);
                    coin++;
                } else {
                    row.add(packageWeight(pack));
                    pack++;
                }
                coinsWithin.put(round * ROW_ROOM + row.size(), coin);
            }
        }

        /** The packages among the first ones of a row are the first ones of the row ahead, two for each. */
        private void countTaken(int bound, Row lengths) {
            int taken = 2 * owners.size() - 2;
            for (int round = bound - 1; round >= 0 && taken > 0; round--) {
                int within = coinsWithin.at(round * ROW_ROOM + taken);
                for (int i = 0; i < within; i++) {
                    int sign = owners.at(i);
                    lengths.put(sign, lengths.at(sign) + 1);
                }
                taken = 2 * (taken - within);
            }
        }
    }

    /** Counts that grow with each sign of a text, and the least code of them. */
    private static final class Growing {
        private final Row counts;
        private final Code code;
        private final Forest forest;

        Growing() {
            counts = new Row(SIGNS + 1);
            code = new Code(LEAST, SIGNS + 1);
            forest = new Forest();
        }

        void lay(Row text, Row stream) {
            stream.empty();
            start();
            for (int i = 0; i < text.size(); i++) {
                makeCode();
                int sign = text.at(i);
                if (counts.at(sign) > 0) {
                    code.layWord(sign, stream);
                } else {
                    code.layWord(MARK, stream);
                    layNumber(sign, stream);
                }
                grow(sign);
            }
        }

        void gather(Row stream, int many, Row into) {
            into.empty();
            start();
            int place = 0;
            for (int i = 0; i < many; i++) {
                makeCode();
                int sign = code.signAhead(stream, place, NONE);
                if (sign < 0) {
                    return;
                }
                place += code.lengths.at(sign);
                if (sign == MARK) {
                    sign = numberFrom(stream, place, NUMBER_BITS);
                    place += NUMBER_BITS;
                    if (place > stream.size() || sign >= SIGNS) {
                        return;
                    }
                }
                into.add(sign);
                grow(sign);
            }
        }

        private void start() {
            counts.fill(SIGNS + 1, 0);
            counts.put(MARK, 1);
        }

        private void makeCode() {
            forest.joinLightest(counts, false);
            forest.measure(code.lengths);
            code.layByLengths();
        }

        private static void layNumber(int number, Row stream) {
            for (int left = NUMBER_BITS - 1; left >= 0; left--) {
                stream.add(number >> left & 1);
            }
        }

        private void grow(int sign) {
            counts.put(sign, counts.at(sign) + 1);
            if (counts.total() > MOST_GROWN) {
                for (int i = 0; i < counts.size(); i++) {
                    counts.put(i, (counts.at(i) + 1) / 2);
                }
            }
        }
    }
}
