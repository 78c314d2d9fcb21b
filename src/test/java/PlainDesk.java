import java.util.ArrayDeque;
import java.util.Arrays;
import java.util.HashMap;
import java.util.HashSet;
import java.util.List;
import java.util.Map;
import java.util.NoSuchElementException;
import java.util.Queue;
import java.util.Set;
import java.util.TreeMap;

/** The document once more, on strings and with the library, to hold the class against. */
final class PlainDesk {
    private static final Map<String, Integer> FEWEST = new HashMap<>();

    private final StringBuilder tape = new StringBuilder();
    private final String[] patterns = new String[24];
    private final int[] queues = new int[24];
    private final int[] routed = new int[24];
    private final TreeMap<String, Integer> values = new TreeMap<>();
    private int latestFault = -1;

    boolean type(long word, int n) {
        if (n < 1 || n > 8) {
            return false;
        }
        StringBuilder signs = new StringBuilder();
        for (int k = 0; k < n; k++) {
            signs.insert(0, (char) (word >> (8 * k) & 0xFF));
        }
        boolean good = signs.chars().allMatch(sign -> sign >= 33 && sign <= 126);
        if (!good || tape.length() + n > 60) {
            return false;
        }
        tape.append(signs);
        return true;
    }

    int bind(int queue) {
        String pattern = take(true);
        if (pattern == null || queue < 0 || queue > 15) {
            throw new IllegalArgumentException();
        }
        int i = Arrays.asList(patterns).indexOf(null);
        if (i < 0) {
            throw new IllegalStateException();
        }
        patterns[i] = pattern;
        queues[i] = queue;
        routed[i] = 0;
        return i;
    }

    int fault() {
        return latestFault;
    }

    boolean free(int i) {
        boolean was = pattern(i) != null;
        if (was) {
            patterns[i] = null;
        }
        return was;
    }

    int route() {
        String topic = takeTopic();
        int bits = 0;
        for (int i = 0; i < 24; i++) {
            if (patterns[i] != null && fits(topic, patterns[i])) {
                routed[i]++;
                bits |= 1 << queues[i];
            }
        }
        return bits;
    }

    int keep(int value) {
        String topic = takeTopic();
        if (!values.containsKey(topic) && values.size() == 20) {
            throw new IllegalStateException();
        }
        values.put(topic, value);
        return values.size();
    }

    boolean lose() {
        return values.remove(takeTopic()) != null;
    }

    int about(int i, int what) {
        String pattern = pattern(i);
        if (pattern == null || what < 0 || what > 3) {
            return -1;
        }
        int taken = (int) values.keySet().stream().filter(topic -> fits(topic, pattern)).count();
        return new int[] {queues[i], routed[i], taken, pattern.length()}[what];
    }

    int kept(int i, int k) {
        String pattern = pattern(i);
        if (pattern == null || k < 0) {
            throw new NoSuchElementException();
        }
        return values.keySet().stream().filter(topic -> fits(topic, pattern)).skip(k).map(values::get)
                .findFirst().orElseThrow(NoSuchElementException::new);
    }

    int sign(int i, int at) {
        String pattern = pattern(i);
        return pattern == null || at < 0 || at >= pattern.length() ? -1 : pattern.charAt(at);
    }

    int both(int i, int j) {
        return pattern(i) == null || pattern(j) == null ? -1 : fewest(patterns[i], patterns[j], true);
    }

    int only(int i, int j) {
        return pattern(i) == null || pattern(j) == null ? -1 : fewest(patterns[i], patterns[j], false);
    }

    int spare(int queue) {
        int bits = 0;
        for (int i = 0; i < 24; i++) {
            for (int j = 0; j < 24; j++) {
                boolean pair = i != j && patterns[i] != null && patterns[j] != null
                        && queues[i] == queue && queues[j] == queue;
                if (pair && only(i, j) == 0 && (j < i || only(j, i) > 0)) {
                    bits |= 1 << i;
                }
            }
        }
        return bits;
    }

    private String pattern(int i) {
        return i < 0 || i > 23 ? null : patterns[i];
    }

    private String takeTopic() {
        String topic = take(false);
        if (topic == null) {
            throw new IllegalArgumentException();
        }
        return topic;
    }

    private String take(boolean wild) {
        String text = tape.toString();
        tape.setLength(0);
        latestFault = faultOf(text, wild);
        return latestFault == -1 ? text : null;
    }

    /** A sign can stand where what is there up to it is good, or becomes so by one more sign. */
    private static int faultOf(String text, boolean wild) {
        for (int at = 0; at < text.length(); at++) {
            String start = text.substring(0, at + 1);
            if (!isGood(start, wild) && !isGood(start + "a", wild)) {
                return at;
            }
        }
        return isGood(text, wild) ? -1 : text.length();
    }

    private static boolean isGood(String text, boolean wild) {
        String[] parts = text.split("\\.", -1);
        String form = wild ? "[a-z0-9]{1,6}|\\*|#" : "[a-z0-9]{1,6}";
        return parts.length <= 6 && Arrays.stream(parts).allMatch(part -> part.matches(form));
    }

    static boolean fits(String topic, String pattern) {
        return fits(listOf(topic), listOf(pattern));
    }

    private static boolean fits(List<String> words, List<String> parts) {
        if (parts.isEmpty()) {
            return words.isEmpty();
        }
        List<String> rest = parts.subList(1, parts.size());
        if (parts.get(0).equals("#")) {
            return fits(words, rest) || !words.isEmpty() && fits(words.subList(1, words.size()), parts);
        }
        return !words.isEmpty() && (parts.get(0).equals("*") || parts.get(0).equals(words.get(0)))
                && fits(words.subList(1, words.size()), rest);
    }

    /** By what is left of each pattern behind each word, all of both patterns' rests at once. */
    private static int fewest(String first, String second, boolean fitsSecond) {
        return FEWEST.computeIfAbsent(first + " " + second + " " + fitsSecond, key -> {
            Set<String> words = new HashSet<>(listOf(first));
            words.addAll(listOf(second));
            words.removeAll(List.of("*", "#"));
            words.add("?");
            return search(Set.of(listOf(first)), Set.of(listOf(second)), words, fitsSecond);
        });
    }

    private static int search(Set<List<String>> first, Set<List<String>> second, Set<String> words,
            boolean fitsSecond) {
        Set<List<Set<List<String>>>> seen = new HashSet<>();
        Queue<List<Set<List<String>>>> level = new ArrayDeque<>(List.of(List.of(first, second)));
        for (int length = 1; !level.isEmpty(); length++) {
            Queue<List<Set<List<String>>>> next = new ArrayDeque<>();
            for (List<Set<List<String>>> state : level) {
                for (String word : words) {
                    Set<List<String>> inFirst = rests(state.get(0), word);
                    Set<List<String>> inSecond = rests(state.get(1), word);
                    if (canEnd(inFirst) && canEnd(inSecond) == fitsSecond) {
                        return length;
                    }
                    if (seen.add(List.of(inFirst, inSecond))) {
                        next.add(List.of(inFirst, inSecond));
                    }
                }
            }
            level = next;
        }
        return 0;
    }

    private static Set<List<String>> rests(Set<List<String>> before, String word) {
        Set<List<String>> behind = new HashSet<>();
        for (List<String> parts : before) {
            List<String> left = parts;
            while (!left.isEmpty() && left.get(0).equals("#")) {
                behind.add(left);
                left = left.subList(1, left.size());
            }
            if (!left.isEmpty() && (left.get(0).equals("*") || left.get(0).equals(word))) {
                behind.add(left.subList(1, left.size()));
            }
        }
        return behind;
    }

    private static boolean canEnd(Set<List<String>> rests) {
        return rests.stream().anyMatch(parts -> parts.stream().allMatch("#"::equals));
    }

    private static List<String> listOf(String text) {
        return List.of(text.split("\\."));
    }
}
