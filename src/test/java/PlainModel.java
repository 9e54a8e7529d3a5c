import java.util.ArrayList;
import java.util.HashSet;
import java.util.List;
import java.util.Map;
import java.util.NoSuchElementException;
import java.util.Set;
import java.util.TreeMap;

/** The document's words taken one by one, with texts and lists, however slow that is. */
final class PlainModel {
    private final List<String> documents = new ArrayList<>();
    private int indexed = 0;
    private String tape = "";
    private String out = "";
    private String sought = "";
    private TreeMap<String, List<Integer>> wheresOfPieces = new TreeMap<>();
    private List<Integer> order = new ArrayList<>();

    long call(String name, long[] given) {
        int a = given.length > 0 ? (int) given[0] : 0;
        switch (name) {
            case "feed": return feed(given);
            case "end": return end(a);
            case "add": return add();
            case "build": return build();
            case "clear": return clear();
            case "seek": return seek();
            case "found": return element(wheresOf(sought), a);
            case "most": return element(most(), a);
            case "near": return near(a);
            case "matched": return matched();
            case "suffix": return element(order, a);
            case "rank": return rank(a);
            case "common": return common(a, (int) given[1]);
            case "repeat": return repeat(a);
            case "shared": return shared(a);
            case "pieces": return wheresOfPieces.size();
            case "piece": return piece(given[0]);
            case "single": return single(a);
            case "phrases": return phrases(a).size();
            case "phrase": return phrase(a, (int) given[1]);
            case "out": return out(a);
            case "at": return suffixAt(a).charAt(0);
            case "count": return count(a);
            default: throw new AssertionError(name);
        }
    }

    private long feed(long[] numbers) {
        if (tape.length() + 20 > 16384) {
            throw new IllegalStateException();
        }
        StringBuilder more = new StringBuilder(tape);
        for (long number : numbers) {
            for (int i = 3; i >= 0; i--) {
                more.append((char) ((number >> (8 * i)) & 255));
            }
        }
        tape = more.toString();
        return tape.length();
    }

    private long end(int n) {
        if (n < 0 || n > tape.length()) {
            throw new IllegalArgumentException();
        }
        tape = tape.substring(0, n);
        return n;
    }

    private long add() {
        if (tape.isEmpty()) {
            throw new IllegalArgumentException();
        }
        int bytes = tape.length();
        for (String document : documents) {
            bytes += document.length();
        }
        if (documents.size() == 64 || bytes > 16384) {
            throw new IllegalStateException();
        }
        documents.add(tape);
        tape = "";
        return documents.size() - 1;
    }

    private long build() {
        indexed = documents.size();
        sought = "";
        indexAnew();
        return order.size();
    }

    private long clear() {
        int before = documents.size();
        documents.clear();
        indexed = 0;
        sought = "";
        indexAnew();
        return before;
    }

    private void indexAnew() {
        wheresOfPieces = new TreeMap<>();
        order = new ArrayList<>();
        for (int d = 0; d < indexed; d++) {
            String text = documents.get(d);
            for (int from = 0; from < text.length(); from++) {
                order.add(65536 * d + from);
                for (int to = from + 1; to <= text.length(); to++) {
                    wheresOfPieces.computeIfAbsent(text.substring(from, to), p -> new ArrayList<>())
                            .add(65536 * d + from);
                }
            }
        }
        order.sort((one, other) -> {
            int byText = suffixAt(one).compareTo(suffixAt(other));
            return byText != 0 ? byText : one / 65536 - other / 65536;
        });
    }

    private long seek() {
        if (tape.length() < 1 || tape.length() > 200) {
            throw new IllegalArgumentException();
        }
        sought = tape;
        tape = "";
        return wheresOf(sought).size();
    }

    private List<Integer> wheresOf(String piece) {
        return wheresOfPieces.getOrDefault(piece, List.of());
    }

    private List<Integer> most() {
        List<Integer> answers = new ArrayList<>();
        for (int often = 16384; often >= 1; often--) {
            if (often > wheresOf(sought).size()) {
                continue;
            }
            for (int d = 0; d < indexed; d++) {
                int number = d;
                if (wheresOf(sought).stream().filter(w -> w / 65536 == number).count() == often) {
                    answers.add(often * 64 + d);
                }
            }
        }
        return answers;
    }

    private long near(int k) {
        if (k < 0 || k > 3) {
            throw new IllegalArgumentException();
        }
        checkSought();
        int often = 0;
        for (int d = 0; d < indexed; d++) {
            String text = documents.get(d);
            for (int from = 0; from + sought.length() <= text.length(); from++) {
                String there = text.substring(from, from + sought.length());
                int others = 0;
                for (int i = 0; i < sought.length(); i++) {
                    others += there.charAt(i) != sought.charAt(i) ? 1 : 0;
                }
                if (others <= k) {
                    often++;
                    out = there;
                }
            }
        }
        return often;
    }

    private long matched() {
        checkSought();
        long sum = 0;
        for (int from = 0; from < sought.length(); from++) {
            int to = from;
            while (to < sought.length() && !wheresOf(sought.substring(from, to + 1)).isEmpty()) {
                to++;
            }
            sum += to - from;
        }
        return sum;
    }

    private long rank(int where) {
        suffixAt(where);
        return order.indexOf(where);
    }

    private long common(int where, int other) {
        String one = suffixAt(where);
        String two = suffixAt(other);
        int length = 0;
        while (length < one.length() && length < two.length() && one.charAt(length) == two.charAt(length)) {
            length++;
        }
        return length;
    }

    private long repeat(int m) {
        if (m < 2 || m > 20) {
            throw new IllegalArgumentException();
        }
        out = "";
        for (Map.Entry<String, List<Integer>> entry : wheresOfPieces.entrySet()) {
            if (entry.getKey().length() > out.length() && entry.getValue().size() >= m) {
                out = entry.getKey();
            }
        }
        return out.length();
    }

    private long shared(int m) {
        if (m < 2 || m > 64) {
            throw new IllegalArgumentException();
        }
        out = "";
        for (Map.Entry<String, List<Integer>> entry : wheresOfPieces.entrySet()) {
            if (entry.getKey().length() > out.length()) {
                Set<Integer> where = new HashSet<>();
                for (int one : entry.getValue()) {
                    where.add(one / 65536);
                }
                out = where.size() >= m ? entry.getKey() : out;
            }
        }
        return out.length();
    }

    private long piece(long k) {
        if (k < 0 || k >= wheresOfPieces.size()) {
            throw new NoSuchElementException();
        }
        long i = 0;
        for (String piece : wheresOfPieces.keySet()) {
            if (i == k) {
                out = piece;
            }
            i++;
        }
        return out.length();
    }

    private long single(int d) {
        String text = document(d);
        out = "";
        for (int length = 1; length <= text.length() && out.isEmpty(); length++) {
            for (int from = 0; from + length <= text.length() && out.isEmpty(); from++) {
                String piece = text.substring(from, from + length);
                out = wheresOf(piece).size() == 1 ? piece : out;
            }
        }
        return out.length();
    }

    private List<Long> phrases(int d) {
        String text = document(d);
        List<Long> answers = new ArrayList<>();
        int from = 0;
        while (from < text.length()) {
            int length = 0;
            while (from + length < text.length() && earlier(text, from, length + 1) >= 0) {
                length++;
            }
            answers.add(length == 0 ? 65536L + 65535L : 65536L * length + earlier(text, from, length));
            from += Math.max(1, length);
        }
        return answers;
    }

    private static int earlier(String text, int from, int length) {
        return from == 0 ? -1 : text.lastIndexOf(text.substring(from, from + length), from - 1);
    }

    private long phrase(int d, int i) {
        List<Long> all = phrases(d);
        if (i < 0 || i >= all.size()) {
            throw new NoSuchElementException();
        }
        return all.get(i);
    }

    private long out(int i) {
        if (i < 0 || i >= out.length()) {
            throw new IndexOutOfBoundsException();
        }
        return out.charAt(i);
    }

    private long count(int what) {
        int[] counts = {documents.size(), indexed, order.size(), tape.length(), out.length(), sought.length()};
        return what < 0 || what >= counts.length ? -1 : counts[what];
    }

    private static long element(List<Integer> list, int i) {
        if (i < 0 || i >= list.size()) {
            throw new NoSuchElementException();
        }
        return list.get(i);
    }

    private String suffixAt(int where) {
        if (where < 0 || where / 65536 >= indexed || where % 65536 >= documents.get(where / 65536).length()) {
            throw new NoSuchElementException();
        }
        return documents.get(where / 65536).substring(where % 65536);
    }

    private String document(int d) {
        if (d < 0 || d >= indexed) {
            throw new NoSuchElementException();
        }
        return documents.get(d);
    }

    private void checkSought() {
        if (sought.isEmpty()) {
            throw new IllegalStateException();
        }
    }
}
