import java.util.Arrays;
import java.util.NoSuchElementException;

/** Topics of words, the patterns that queues are bound by, and what is kept by topics. */
public final class TopicDesk {
    public static final int NONE = -1;

    private static final int TAPE_SIGNS = 60;
    private static final int LEAST_TAPE_SIGN = 33;
    private static final int LAST_TAPE_SIGN = 126;
    private static final int BYTES_OF_LONG = 8;
    private static final int BINDINGS = 24;
    private static final int QUEUES = 16;
    private static final int MOST_KEPT = 20;
    private static final int MOST_PARTS = 6;
    private static final int WORD_SIGNS = 6;
    private static final int DOT = '.';
    private static final int STAR = '*';
    private static final int HASH = '#';

    private final Text tape;
    private final Text taken;
    private final Binding[] bindings;
    private final Shelf shelf;
    private final RowSearch search;
    private int latestFault;

    public TopicDesk() {
        tape = new Text();
        taken = new Text();
        bindings = new Binding[BINDINGS];
        for (int i = 0; i < bindings.length; i++) {
            bindings[i] = new Binding();
        }
        shelf = new Shelf();
        search = new RowSearch();
        latestFault = NONE;
    }

    public boolean type(long word, int n) {
        if (n < 1 || n > BYTES_OF_LONG || tape.length() + n > TAPE_SIGNS) {
            return false;
        }
        for (int k = 0; k < n; k++) {
            int sign = byteOf(word, k);
            if (sign < LEAST_TAPE_SIGN || sign > LAST_TAPE_SIGN) {
                return false;
            }
        }
        for (int k = n - 1; k >= 0; k--) {
            tape.add(byteOf(word, k));
        }
        return true;
    }

    public int bind(int queue) throws IllegalArgumentException, IllegalStateException {
        boolean isPattern = takeTape(true);
        if (!isPattern || !isQueue(queue)) {
            throw new IllegalArgumentException("no pattern, or no such queue");
        }
        int i = leastFreeBinding();
        if (i < 0 || i >= bindings.length) {
            throw new IllegalStateException("no binding is free");
        }
        bindings[i].tie(taken, queue);
        return i;
    }

    public int fault() {
        return latestFault;
    }

    public boolean free(int i) {
        Binding binding = boundAt(i);
        if (binding == null) {
            return false;
        }
        binding.untie();
        return true;
    }

    public int route() throws IllegalArgumentException {
        if (!takeTape(false)) {
            throw new IllegalArgumentException("no topic");
        }
        int queues = 0;
        for (int i = 0; i < bindings.length; i++) {
            Binding binding = bindings[i];
            if (binding.isBound() && binding.pattern().takes(taken)) {
                binding.countRouted();
                queues |= 1 << binding.queue();
            }
        }
        return queues;
    }

    public int keep(int value) throws IllegalArgumentException, IllegalStateException {
        if (!takeTape(false)) {
            throw new IllegalArgumentException("no topic");
        }
        if (!shelf.put(taken, value)) {
            throw new IllegalStateException("no more topics can be kept");
        }
        return shelf.size();
    }

    public boolean lose() throws IllegalArgumentException {
        if (!takeTape(false)) {
            throw new IllegalArgumentException("no topic");
        }
        return shelf.drop(taken);
    }

    public int about(int i, int what) {
        Binding binding = boundAt(i);
        if (binding == null) {
            return NONE;
        }
        switch (what) {
            case 0:
                return binding.queue();
            case 1:
                return binding.routed();
            case 2:
                return shelf.countTakenBy(binding.pattern());
            case 3:
                return binding.pattern().length();
            default:
                return NONE;
        }
    }

    public int kept(int i, int k) throws NoSuchElementException {
        Binding binding = boundAt(i);
        KeptTopic topic = binding == null ? null : shelf.takenBy(binding.pattern(), k);
        if (topic == null) {
            throw new NoSuchElementException("no such kept topic, or no such binding");
        }
        return topic.value();
    }

    public int sign(int i, int at) {
        Binding binding = boundAt(i);
        return binding == null ? NONE : binding.pattern().signAt(at);
    }

    public int both(int i, int j) {
        return fewestWords(i, j, true);
    }

    public int only(int i, int j) {
        return fewestWords(i, j, false);
    }

    public int spare(int queue) {
        if (!isQueue(queue)) {
            return 0;
        }
        int spares = 0;
        for (int i = 0; i < bindings.length; i++) {
            if (bindings[i].queue() == queue && isSpare(i, queue)) {
                spares |= 1 << i;
            }
        }
        return spares;
    }

    private static int byteOf(long word, int k) {
        return (int) (word >>> (8 * k)) & 255;
    }

    private static boolean isQueue(int queue) {
        return queue >= 0 && queue < QUEUES;
    }

    /** Empties the tape into the taken text; answers whether that is a pattern (wild) or a topic. */
    private boolean takeTape(boolean wild) {
        taken.copy(tape);
        tape.clear();
        latestFault = taken.read(wild);
        return latestFault == NONE;
    }

    private int leastFreeBinding() {
        for (int i = 0; i < bindings.length; i++) {
            if (!bindings[i].isBound()) {
                return i;
            }
        }
        return NONE;
    }

    /** The binding with this number, or null if it is free or there is none such. */
    private Binding boundAt(int i) {
        if (i < 0 || i >= bindings.length) {
            return null;
        }
        return bindings[i].isBound() ? bindings[i] : null;
    }

    private int fewestWords(int i, int j, boolean fitsSecond) {
        Binding first = boundAt(i);
        Binding second = boundAt(j);
        if (first == null || second == null) {
            return NONE;
        }
        return search.fewestWords(first.pattern(), second.pattern(), fitsSecond);
    }

    private boolean isSpare(int i, int queue) {
        for (int j = 0; j < bindings.length; j++) {
            // Of two that take the same rows, the one with the lesser number is not spare.
            if (j != i && bindings[j].queue() == queue && isWithin(i, j)
                    && (j < i || !isWithin(j, i))) {
                return true;
            }
        }
        return false;
    }

    private boolean isWithin(int i, int j) {
        return fewestWords(i, j, false) == 0;
    }

    /**
     * A row of signs and, once it is read, its parts. A part is its signs as the bytes of one
     * long, so that equal words are equal numbers and no word is 0, a star or a hash.
     */
    private static final class Text {
        private final byte[] signs;
        private final long[] parts;
        private int length;
        private int partCount;

        Text() {
            signs = new byte[TAPE_SIGNS];
            parts = new long[MOST_PARTS];
            length = 0;
            partCount = 0;
        }

        int length() {
            return length;
        }

        int partCount() {
            return partCount;
        }

        int signAt(int at) {
            return at >= 0 && at < length && at < signs.length ? signs[at] : NONE;
        }

        long partAt(int p) {
            return p >= 0 && p < partCount && p < parts.length ? parts[p] : 0L;
        }

        void add(int sign) {
            if (length < signs.length) {
                signs[length] = (byte) sign;
                length++;
            }
        }

        void clear() {
            length = 0;
            partCount = 0;
        }

        void copy(Text other) {
            clear();
            for (int at = 0; at < other.length; at++) {
                add(other.signAt(at));
            }
            for (int p = 0; p < other.partCount; p++) {
                addPart(other.partAt(p));
            }
        }

        /** Reads the signs as a pattern (wild) or a topic; answers the place of the fault, or NONE. */
        int read(boolean wild) {
            partCount = 0;
            long part = 0L;
            int held = 0;
            for (int at = 0; at < length; at++) {
                int sign = signAt(at);
                if (!canStand(sign, held, wild)) {
                    return at;
                }
                if (sign == DOT) {
                    addPart(part);
                    part = 0L;
                    held = 0;
                } else {
                    part = part << 8 | sign;
                    // A star or a hash fills its part: no further sign can stand in it.
                    held = isWild(sign) ? WORD_SIGNS : held + 1;
                }
            }
            if (held == 0) {
                return length;
            }
            addPart(part);
            return NONE;
        }

        /** Whether this text is ahead of (below 0), the same as (0) or behind (above 0) the other. */
        int compareSigns(Text other) {
            int shared = Math.min(length, other.length);
            for (int at = 0; at < shared; at++) {
                int difference = signAt(at) - other.signAt(at);
                if (difference != 0) {
                    return difference;
                }
            }
            return length - other.length;
        }

        /** Whether the words of the topic fit this pattern. */
        boolean takes(Text topic) {
            int places = startPlaces();
            for (int p = 0; p < topic.partCount; p++) {
                places = placesBehind(places, topic.partAt(p));
            }
            return hasEnd(places);
        }

        /** As bits, how many parts can be done before the first word. */
        int startPlaces() {
            int places = 1;
            for (int p = 0; p < partCount && partAt(p) == HASH; p++) {
                places |= 2 << p;
            }
            return places;
        }

        /** As bits, how many parts can be done behind this word, if those of places were before it. */
        int placesBehind(int places, long word) {
            int behind = 0;
            for (int p = 0; p < partCount; p++) {
                long part = partAt(p);
                boolean wasHere = (places >> p & 1) != 0;
                if (part == HASH) {
                    if (wasHere) {
                        behind |= 1 << p;
                    }
                    // A hash may also take no word at all, so whoever stands at it is past it, too.
                    behind |= (behind & 1 << p) << 1;
                } else if (wasHere && (part == STAR || part == word)) {
                    behind |= 2 << p;
                }
            }
            return behind;
        }

        boolean hasEnd(int places) {
            return (places >> partCount & 1) != 0;
        }

        private void addPart(long part) {
            if (partCount < parts.length) {
                parts[partCount] = part;
                partCount++;
            }
        }

        private boolean canStand(int sign, int held, boolean wild) {
            if (sign == DOT) {
                return held > 0 && partCount < MOST_PARTS - 1;
            }
            if (isWild(sign)) {
                return wild && held == 0;
            }
            return isWordSign(sign) && held < WORD_SIGNS;
        }

        private static boolean isWild(int sign) {
            return sign == STAR || sign == HASH;
        }

        private static boolean isWordSign(int sign) {
            return sign >= 'a' && sign <= 'z' || sign >= '0' && sign <= '9';
        }
    }

    /** A place for a pattern that is bound to a queue; its queue is NONE while it is free. */
    private static final class Binding {
        private final Text pattern;
        private int queue;
        private int routed;

        Binding() {
            pattern = new Text();
            queue = NONE;
            routed = 0;
        }

        boolean isBound() {
            return queue != NONE;
        }

        Text pattern() {
            return pattern;
        }

        int queue() {
            return queue;
        }

        int routed() {
            return routed;
        }

        void tie(Text text, int toQueue) {
            pattern.copy(text);
            queue = toQueue;
            routed = 0;
        }

        void untie() {
            queue = NONE;
        }

        void countRouted() {
            routed++;
        }
    }

    /** A topic with its value. */
    private static final class KeptTopic {
        private final Text text;
        private int value;

        KeptTopic() {
            text = new Text();
            value = 0;
        }

        Text text() {
            return text;
        }

        int value() {
            return value;
        }

        void setText(Text topic) {
            text.copy(topic);
        }

        void setValue(int newValue) {
            value = newValue;
        }
    }

    /** The kept topics, in the order of their texts; those behind the first size are for later use. */
    private static final class Shelf {
        private final KeptTopic[] topics;
        private int size;

        Shelf() {
            topics = new KeptTopic[MOST_KEPT];
            for (int at = 0; at < topics.length; at++) {
                topics[at] = new KeptTopic();
            }
            size = 0;
        }

        int size() {
            return size;
        }

        /** False, changing nothing, if the topic is new and the shelf is full. */
        boolean put(Text topic, int value) {
            int at = placeFor(topic);
            boolean isNew = !isAt(at, topic);
            if (at >= topics.length || isNew && size >= topics.length) {
                return false;
            }
            if (isNew) {
                size++;
                move(size - 1, at);
                topics[at].setText(topic);
            }
            topics[at].setValue(value);
            return true;
        }

        /** Whether the topic was there. */
        boolean drop(Text topic) {
            int at = placeFor(topic);
            if (!isAt(at, topic)) {
                return false;
            }
            move(at, size - 1);
            size--;
            return true;
        }

        int countTakenBy(Text pattern) {
            int count = 0;
            for (int at = 0; at < size && at < topics.length; at++) {
                if (pattern.takes(topics[at].text())) {
                    count++;
                }
            }
            return count;
        }

        /** The k-th topic that the pattern takes, or null. */
        KeptTopic takenBy(Text pattern, int k) {
            int passed = 0;
            for (int at = 0; at < size && at < topics.length; at++) {
                if (pattern.takes(topics[at].text())) {
                    if (passed == k) {
                        return topics[at];
                    }
                    passed++;
                }
            }
            return null;
        }

        /** The place of the first topic that is not ahead of this one. */
        private int placeFor(Text topic) {
            int at = 0;
            while (at < size && at < topics.length && topics[at].text().compareSigns(topic) < 0) {
                at++;
            }
            return at;
        }

        private boolean isAt(int at, Text topic) {
            return at < size && at < topics.length && topics[at].text().compareSigns(topic) == 0;
        }

        /** Takes the topic at one place out and puts it in at another, the others closing up. */
        private void move(int from, int to) {
            if (!isPlace(from) || !isPlace(to)) {
                return;
            }
            KeptTopic moved = topics[from];
            for (int at = from; at < to; at++) {
                topics[at] = topics[at + 1];
            }
            for (int at = from; at > to; at--) {
                topics[at] = topics[at - 1];
            }
            topics[to] = moved;
        }

        private boolean isPlace(int at) {
            return at >= 0 && at < topics.length;
        }
    }

    /**
     * Looks for the shortest row of words that fits one pattern and fits, or does not fit, another.
     * A state is one place in the first pattern and all places that the second can be at: what does
     * not fit the second is known only from all of them.
     */
    private static final class RowSearch {
        private static final int PLACES = MOST_PARTS + 1;
        private static final int STATE_BITS = PLACES + 3;
        private static final int STATES = 1 << STATE_BITS;
        private static final int BITS_OF_LONG = 64;
        // Words that neither pattern has are alike to both, and there are always some.
        private static final long STRANGE_WORD = 0L;

        private final int[] waiting;
        private final long[] seen;
        private final long[] words;
        private int waitingCount;
        private int wordCount;

        RowSearch() {
            waiting = new int[STATES];
            seen = new long[STATES / BITS_OF_LONG];
            words = new long[2 * MOST_PARTS + 1];
            waitingCount = 0;
            wordCount = 0;
        }

        /** The length of the row, which has at least one word; 0 if there is none such. */
        int fewestWords(Text first, Text second, boolean fitsSecond) {
            collectWords(first, second);
            waitingCount = 0;
            Arrays.fill(seen, 0L);
            addStates(first.startPlaces(), second.startPlaces(), 0);
            for (int next = 0; next < waitingCount && next < waiting.length; next++) {
                int state = waiting[next] & STATES - 1;
                int length = (waiting[next] >> STATE_BITS) + 1;
                for (int w = 0; w < wordCount; w++) {
                    int inFirst = first.placesBehind(1 << (state >> PLACES), words[w]);
                    int inSecond = second.placesBehind(state & (1 << PLACES) - 1, words[w]);
                    // Looked at before what is seen is passed over: the start may be an end, too.
                    if (first.hasEnd(inFirst) && second.hasEnd(inSecond) == fitsSecond) {
                        return length;
                    }
                    addStates(inFirst, inSecond, length);
                }
            }
            return 0;
        }

        private void collectWords(Text first, Text second) {
            wordCount = 0;
            addWord(STRANGE_WORD);
            for (int p = 0; p < first.partCount(); p++) {
                addWord(first.partAt(p));
            }
            for (int p = 0; p < second.partCount(); p++) {
                addWord(second.partAt(p));
            }
        }

        private void addWord(long part) {
            boolean isNew = part != STAR && part != HASH;
            for (int w = 0; w < wordCount; w++) {
                isNew = isNew && words[w] != part;
            }
            if (isNew && wordCount < words.length) {
                words[wordCount] = part;
                wordCount++;
            }
        }

        /** A state for each place in the first pattern, reached by a row of this length. */
        private void addStates(int inFirst, int inSecond, int length) {
            for (int place = 0; place < PLACES; place++) {
                if ((inFirst >> place & 1) != 0) {
                    addState(place << PLACES | inSecond, length);
                }
            }
        }

        private void addState(int state, int length) {
            int row = state / BITS_OF_LONG;
            long bit = 1L << state % BITS_OF_LONG;
            if (row < 0 || row >= seen.length || (seen[row] & bit) != 0L) {
                return;
            }
            seen[row] |= bit;
            if (waitingCount < waiting.length) {
                waiting[waitingCount] = length << STATE_BITS | state;
                waitingCount++;
            }
        }
    }
}
