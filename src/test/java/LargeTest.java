import java.util.ArrayList;
import java.util.HashMap;
import java.util.HashSet;
import java.util.List;
import java.util.Map;
import java.util.Random;
import java.util.Set;

/** As many bytes as 512 calls can bring, of the kinds that are hard to sort. */
public final class LargeTest {
    private final String name;
    private final List<String> documents;
    private final SuffixIndex index = new SuffixIndex();
    private final List<Integer> order = new ArrayList<>();

    private LargeTest(String name, List<String> documents) {
        this.name = name;
        this.documents = documents;
    }

    public static void main(String[] args) {
        Random chance = new Random(7);
        List<String> few = new ArrayList<>();
        for (int i = 0; i < 64; i++) {
            few.add(random(chance, 1 + chance.nextInt(120), 2));
        }
        List<String> alike = new ArrayList<>();
        for (int i = 0; i < 64; i++) {
            alike.add(Texts.times("abc", 20).substring(i % 3));
        }
        new LargeTest("one letter", List.of(Texts.times("a", 5000))).check();
        new LargeTest("two letters", List.of(random(chance, 6000, 2))).check();
        new LargeTest("all letters", List.of(random(chance, 4000, 256), random(chance, 2000, 256))).check();
        new LargeTest("fibonacci", List.of(fibonacci(5000))).check();
        new LargeTest("many documents", few).check();
        new LargeTest("alike documents", alike).check();
        Check.finish("LargeTest");
    }

    private static String random(Random chance, int length, int letters) {
        StringBuilder text = new StringBuilder();
        for (int i = 0; i < length; i++) {
            text.append((char) chance.nextInt(letters));
        }
        return text.toString();
    }

    private static String fibonacci(int length) {
        String before = "b";
        String text = "a";
        while (text.length() < length) {
            String next = text + before;
            before = text;
            text = next;
        }
        return text.substring(0, length);
    }

    private void check() {
        for (String document : documents) {
            Texts.add(index, document);
        }
        for (int d = 0; d < documents.size(); d++) {
            for (int place = 0; place < documents.get(d).length(); place++) {
                order.add(Texts.where(d, place));
            }
        }
        Check.same(name + ": build", index.build(), order.size());
        order.sort((one, other) -> {
            int byText = suffixAt(one).compareTo(suffixAt(other));
            return byText != 0 ? byText : Integer.compare(one, other);
        });
        checkOrder();
        checkPieces();
        checkRepeats();
        checkPhrases();
        checkSingles();
        checkSearches();
    }

    private void checkOrder() {
        for (int i = 0; i < order.size(); i++) {
            Check.same(name + ": suffix(" + i + ")", index.suffix(i), order.get(i));
            Check.same(name + ": rank of it", index.rank(order.get(i)), i);
        }
    }

    private void checkPieces() {
        long sum = 0;
        for (int i = 0; i < order.size(); i++) {
            String suffix = suffixAt(order.get(i));
            int known = i == 0 ? 0 : common(suffixAt(order.get(i - 1)), suffix);
            if (i > 0) {
                Check.same(name + ": common", index.common(order.get(i - 1), order.get(i)), known);
            }
            if (i % 97 == 0 && known < suffix.length()) {
                Check.same(name + ": first new piece", index.piece(sum), known + 1);
                Check.same(name + ": out of it", State.out(index), suffix.substring(0, known + 1));
                Check.same(name + ": last new piece", index.piece(sum + suffix.length() - known - 1),
                        suffix.length());
                Check.same(name + ": out of that", State.out(index), suffix);
            }
            sum += suffix.length() - known;
        }
        Check.same(name + ": pieces", index.pieces(), sum);
    }

    /** The piece must stand often enough, and no longer one nor an earlier one may. */
    private void checkRepeats() {
        for (int m : new int[] {2, 3, 20}) {
            int length = index.repeat(m);
            Check.same(name + ": repeat(" + m + ")", State.out(index), firstOften(length, m, false));
            Check.same(name + ": longer than repeat(" + m + ")", firstOften(length + 1, m, false), "");
        }
        for (int m : new int[] {2, 5, 64}) {
            int length = index.shared(m);
            Check.same(name + ": shared(" + m + ")", State.out(index), firstOften(length, m, true));
            Check.same(name + ": longer than shared(" + m + ")", firstOften(length + 1, m, true), "");
        }
    }

    private String firstOften(int length, int m, boolean byDocument) {
        Map<String, Set<Integer>> standing = new HashMap<>();
        for (int where : order) {
            String suffix = suffixAt(where);
            if (length > 0 && length <= suffix.length()) {
                standing.computeIfAbsent(suffix.substring(0, length), piece -> new HashSet<>())
                        .add(byDocument ? where / 65536 : where);
            }
        }
        String first = "";
        for (Map.Entry<String, Set<Integer>> entry : standing.entrySet()) {
            boolean earlier = first.isEmpty() || entry.getKey().compareTo(first) < 0;
            first = entry.getValue().size() >= m && earlier ? entry.getKey() : first;
        }
        return first;
    }

    private void checkPhrases() {
        for (int d = 0; d < documents.size(); d++) {
            String text = documents.get(d);
            int from = 0;
            int amount = 0;
            while (from < text.length()) {
                long answer = index.phrase(d, amount);
                int length = (int) (answer / 65536);
                int place = (int) (answer % 65536);
                String phrase = text.substring(from, from + length);
                int due = from == 0 ? -1 : text.lastIndexOf(phrase, from - 1);
                Check.same(name + ": place of a phrase", place, due < 0 ? 65535 : due);
                if (from > 0 && from + length < text.length() && due >= 0) {
                    String longer = text.substring(from, from + length + 1);
                    Check.holds(name + ": no longer phrase", text.lastIndexOf(longer, from - 1) < 0);
                }
                from += length;
                amount++;
            }
            Check.same(name + ": phrases(" + d + ")", index.phrases(d), amount);
        }
    }

    /** The one told stands once, none before it of that length and none that is a byte shorter does. */
    private void checkSingles() {
        for (int d = 0; d < documents.size(); d++) {
            String text = documents.get(d);
            int length = index.single(d);
            Check.same(name + ": single(" + d + ")", State.out(index), firstSingle(text, length));
            int shorter = length == 0 ? text.length() : length - 1;
            Check.same(name + ": shorter than single(" + d + ")", firstSingle(text, shorter), "");
        }
    }

    private String firstSingle(String text, int length) {
        Map<String, Integer> often = new HashMap<>();
        for (int where : order) {
            String suffix = suffixAt(where);
            if (length > 0 && length <= suffix.length()) {
                often.merge(suffix.substring(0, length), 1, Integer::sum);
            }
        }
        for (int from = 0; length > 0 && from + length <= text.length(); from++) {
            String piece = text.substring(from, from + length);
            if (often.get(piece) == 1) {
                return piece;
            }
        }
        return "";
    }

    /** Pieces of a document as they stand there, and with some bytes changed. */
    private void checkSearches() {
        String text = documents.get(documents.size() - 1);
        for (int length : new int[] {1, 2, 7, 20, 199, 200}) {
            if (length <= text.length()) {
                StringBuilder wanted = new StringBuilder(text.substring(text.length() - length));
                for (int changed = 0; changed <= 4; changed++) {
                    checkSearch(wanted.toString());
                    wanted.setCharAt(changed * length / 5, (char) 77);
                }
            }
        }
    }

    private void checkSearch(String wanted) {
        String what = name + ": " + wanted.length() + " bytes: ";
        List<List<Integer>> wheres = List.of(new ArrayList<>(), new ArrayList<>(), new ArrayList<>(),
                new ArrayList<>());
        for (int d = 0; d < documents.size(); d++) {
            for (int from = 0; from + wanted.length() <= documents.get(d).length(); from++) {
                int others = others(wanted, documents.get(d), from);
                for (int k = others; k <= 3; k++) {
                    wheres.get(k).add(Texts.where(d, from));
                }
            }
        }
        Check.same(what + "seek", Texts.seek(index, wanted), wheres.get(0).size());
        for (int i = 0; i < wheres.get(0).size(); i++) {
            Check.same(what + "found(" + i + ")", index.found(i), wheres.get(0).get(i));
        }
        Check.refuses(index, what + "found", Check.ELEMENT, () -> index.found(wheres.get(0).size()));
        checkMost(what, wheres.get(0));
        Check.same(what + "matched", index.matched(), matched(wanted));
        String told = State.out(index);
        for (int k = 0; k <= 3; k++) {
            Check.same(what + "near(" + k + ")", index.near(k), wheres.get(k).size());
            if (!wheres.get(k).isEmpty()) {
                told = suffixAt(wheres.get(k).get(wheres.get(k).size() - 1)).substring(0, wanted.length());
            }
            Check.same(what + "out of near(" + k + ")", State.out(index), told);
        }
    }

    private void checkMost(String what, List<Integer> wheres) {
        List<Integer> due = new ArrayList<>();
        for (int d = 0; d < documents.size(); d++) {
            int number = d;
            int often = (int) wheres.stream().filter(where -> where / 65536 == number).count();
            if (often > 0) {
                due.add(often * 64 + d);
            }
        }
        due.sort((one, other) -> one / 64 != other / 64 ? other / 64 - one / 64 : one - other);
        for (int i = 0; i < due.size(); i++) {
            Check.same(what + "most(" + i + ")", index.most(i), due.get(i));
        }
        Check.refuses(index, what + "most", Check.ELEMENT, () -> index.most(due.size()));
    }

    private static int others(String wanted, String text, int from) {
        int others = 0;
        for (int i = 0; i < wanted.length(); i++) {
            others += wanted.charAt(i) != text.charAt(from + i) ? 1 : 0;
        }
        return others;
    }

    private int matched(String wanted) {
        int sum = 0;
        int to = 0;
        for (int from = 0; from < wanted.length(); from++) {
            // What stands from a byte on stands without that byte, too.
            to = Math.max(to, from);
            while (to < wanted.length() && standsAnywhere(wanted.substring(from, to + 1))) {
                to++;
            }
            sum += to - from;
        }
        return sum;
    }

    private boolean standsAnywhere(String piece) {
        return documents.stream().anyMatch(document -> document.contains(piece));
    }

    private String suffixAt(int where) {
        return documents.get(where / 65536).substring(where % 65536);
    }

    private static int common(String one, String other) {
        int length = 0;
        while (length < one.length() && length < other.length() && one.charAt(length) == other.charAt(length)) {
            length++;
        }
        return length;
    }
}
