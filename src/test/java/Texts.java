import java.util.NoSuchElementException;

/** Brings texts (characters 0 to 255) into an object by its face. */
final class Texts {
    private Texts() {
    }

    static void tape(SuffixIndex index, String text) {
        int before = index.count(3);
        for (int from = 0; from < text.length(); from += 20) {
            index.feed(four(text, from), four(text, from + 4), four(text, from + 8),
                    four(text, from + 12), four(text, from + 16));
            // The padding of a feed that is not full must not stand between two feeds.
            index.end(before + Math.min(text.length(), from + 20));
        }
    }

    static int add(SuffixIndex index, String text) {
        tape(index, text);
        return index.add();
    }

    static int seek(SuffixIndex index, String text) {
        tape(index, text);
        return index.seek();
    }

    static SuffixIndex built(String... documents) {
        SuffixIndex index = new SuffixIndex();
        for (String document : documents) {
            add(index, document);
        }
        index.build();
        return index;
    }

    /** A document read byte by byte, to the first place where there is none. */
    static String document(SuffixIndex index, int d) {
        StringBuilder text = new StringBuilder();
        try {
            for (int place = 0; place < 16384; place++) {
                text.append((char) index.at(where(d, place)));
            }
        } catch (NoSuchElementException end) {
            return text.toString();
        }
        return text.toString();
    }

    static int where(int document, int place) {
        return 65536 * document + place;
    }

    static String times(String text, int n) {
        return text.repeat(n);
    }

    /** The numbers of a feed that brings twenty bytes of a text. */
    static long[] twenty(String text, int from) {
        long[] numbers = new long[5];
        for (int i = 0; i < numbers.length; i++) {
            numbers[i] = four(text, from + 4 * i);
        }
        return numbers;
    }

    private static int four(String text, int from) {
        int number = 0;
        for (int i = from; i < from + 4; i++) {
            number = (number << 8) | (i < text.length() ? text.charAt(i) : ' ');
        }
        return number;
    }
}
