/** The boundary sentences of promises 12 to 21 and 23: the suffixes in ORDER and what follows from it. */
public final class BoundaryOrderTest {
    private static final long FRESH = 65536 + 65535;

    public static void main(String[] args) {
        suffixNone();
        whichSuffix();
        rankNone();
        inCommon();
        commonNone();
        inWheres();
        firstOfRepeats();
        repeatNone();
        anotherRepeat();
        inDocuments();
        firstOfShared();
        sharedNone();
        anotherShared();
        differentPieces();
        everyPiece();
        pieceNone();
        standsOnce();
        leastPlace();
        singleNone();
        singleNotIndexed();
        intoHowMany();
        intoItself();
        oneByte();
        phrasesNotIndexed();
        greatestLesserPlace();
        singleByteAtNone();
        phraseNone();
        byteAt();
        atNone();
        Check.finish("BoundaryOrderTest");
    }

    private static void suffixNone() {
        Check.sentence("Promise 12", "The WHERE of the i-th SUFFIX in ORDER, from 0."
                + " NoSuchElementException: there is none.");
        SuffixIndex x = new SuffixIndex();
        refuseSuffix(x, 0);
        Texts.add(x, "b");
        refuseSuffix(x, 0);
        x.build();
        Check.same("the only one", x.suffix(0), 0);
        refuseSuffix(x, 1);
        Texts.add(x, "ab");
        refuseSuffix(x, 1);
        x.build();
        int[] due = {Texts.where(1, 0), 0, Texts.where(1, 1)};
        for (int i = 0; i < due.length; i++) {
            Check.same("suffix(" + i + ")", x.suffix(i), due[i]);
        }
        refuseSuffix(x, 3);
        x.clear();
        refuseSuffix(x, 0);
    }

    private static void refuseSuffix(SuffixIndex x, int from) {
        for (int i : new int[] {from, from + 1, -1, -64, Integer.MIN_VALUE, Integer.MAX_VALUE}) {
            Check.refuses(x, "suffix(" + i + ")", Check.ELEMENT, () -> x.suffix(i));
        }
    }

    private static void whichSuffix() {
        Check.sentence("Promise 13", "Which SUFFIX in ORDER that of a WHERE is.");
        SuffixIndex x = new SuffixIndex();
        for (int d = 0; d < 64; d++) {
            Texts.add(x, "ba");
        }
        x.build();
        for (int d = 0; d < 64; d++) {
            Check.same("rank of ba in " + d, x.rank(Texts.where(d, 0)), 64 + d);
            Check.same("rank of a in " + d, x.rank(Texts.where(d, 1)), d);
        }
        Check.same("of one alone", Texts.built("q").rank(0), 0);
    }

    private static void rankNone() {
        Check.sentence("Promise 13", "NoSuchElementException: there is none.");
        refuseEachWhere("rank", (x, where) -> x.rank(where));
    }

    private static void inCommon() {
        Check.sentence("Promise 14", "How many bytes the SUFFIXES of two WHERES have in common at their beginning.");
        SuffixIndex x = Texts.built("aaaa", "aa", "aa", "b", "ab");
        Check.same("one and the same", x.common(0, 0), 4);
        Check.same("one and the same of one byte", x.common(3, 3), 1);
        Check.same("the last of them", x.common(Texts.where(4, 1), Texts.where(4, 1)), 1);
        Check.same("a beginning of the other", x.common(0, 1), 3);
        Check.same("the other way round", x.common(1, 0), 3);
        Check.same("of another document", x.common(0, Texts.where(1, 0)), 2);
        Check.same("alike ones", x.common(Texts.where(1, 0), Texts.where(2, 0)), 2);
        Check.same("alike ones the other way round", x.common(Texts.where(2, 0), Texts.where(1, 0)), 2);
        Check.same("not into the next document", x.common(Texts.where(2, 1), Texts.where(4, 0)), 1);
        Check.same("nothing", x.common(0, Texts.where(3, 0)), 0);
        Check.same("alike ones of one byte", x.common(Texts.where(3, 0), Texts.where(4, 1)), 1);
    }

    private static void commonNone() {
        Check.sentence("Promise 14", "NoSuchElementException: there is none.");
        refuseEachWhere("common with the first", (x, where) -> x.common(0, where));
        refuseEachWhere("common, the first", (x, where) -> x.common(where, 0));
        refuseEachWhere("common with itself", (x, where) -> x.common(where, where));
    }

    private static void inWheres() {
        Check.sentence("Promise 15", "OUT is the longest PIECE that stands in m WHERES or more, 2 .. 20");
        SuffixIndex x = Texts.built(Texts.times("a", 20));
        for (int m = 2; m <= 20; m++) {
            repeats(x, m, Texts.times("a", 21 - m));
        }
        SuffixIndex ones = new SuffixIndex();
        for (int d = 0; d < 19; d++) {
            Texts.add(ones, "rs");
        }
        ones.build();
        repeats(ones, 19, "rs");
        repeats(ones, 20, "");
        Texts.add(ones, "s");
        ones.build();
        repeats(ones, 19, "rs");
        repeats(ones, 20, "s");
        SuffixIndex one = Texts.built("abab");
        repeats(one, 2, "ab");
        repeats(Texts.built("ab", "ab"), 2, "ab");
        repeats(Texts.built("ab", "ba"), 2, "a");
        repeats(Texts.built("a", "a"), 2, "a");
    }

    private static void firstOfRepeats() {
        Check.sentence("Promise 15", "of several the first in ORDER");
        repeats(Texts.built("zyzyX\u00FF\u0080\u00FF\u0080"), 2, "zy");
        repeats(Texts.built("\u00FF\u00FF.\u0080\u0080"), 2, "\u0080");
        repeats(Texts.built("\0b\0b1\0a\0a"), 2, "\0a");
        repeats(Texts.built("bc1bc2bb3bb"), 2, "bb");
        repeats(Texts.built("b", "b", "a", "a"), 2, "a");
    }

    private static void repeatNone() {
        Check.sentence("Promise 15", "(empty if there is none): its length.");
        SuffixIndex x = Texts.built("abc");
        x.piece(5);
        repeats(x, 2, "");
        x.piece(5);
        x.clear();
        repeats(x, 2, "");
        repeats(new SuffixIndex(), 20, "");
        repeats(Texts.built("a"), 2, "");
        repeats(Texts.built("a", "b"), 2, "");
    }

    private static void repeats(SuffixIndex x, int m, String due) {
        Check.same("repeat(" + m + ")", x.repeat(m), due.length());
        Check.same("out of repeat(" + m + ")", State.out(x), due);
    }

    private static void anotherRepeat() {
        Check.sentence("Promise 15", "IllegalArgumentException: another m.");
        for (SuffixIndex x : new SuffixIndex[] {new SuffixIndex(), Texts.built("banana", "ananas")}) {
            x.repeat(2);
            for (int m : new int[] {1, 0, -1, 21, 64, Integer.MIN_VALUE, Integer.MAX_VALUE}) {
                Check.refuses(x, "repeat(" + m + ")", Check.ARGUMENT, () -> x.repeat(m));
            }
        }
    }

    private static void inDocuments() {
        Check.sentence("Promise 16", "OUT is the longest PIECE that stands in m DOCUMENTS or more, 2 .. 64");
        SuffixIndex x = new SuffixIndex();
        for (int d = 0; d < 64; d++) {
            Texts.add(x, d < 40 ? "abc" : d < 63 ? "ab" : "a");
        }
        x.build();
        shares(x, 2, "abc");
        shares(x, 40, "abc");
        shares(x, 41, "ab");
        shares(x, 63, "ab");
        shares(x, 64, "a");
        SuffixIndex often = Texts.built("abababab", "ba", "c");
        shares(often, 2, "ba");
        shares(often, 3, "");
        shares(Texts.built("aaaa", "aaa", "aa"), 2, "aaa");
        shares(Texts.built("aaaa", "aaa", "aa"), 3, "aa");
    }

    private static void firstOfShared() {
        Check.sentence("Promise 16", "of several the first in ORDER");
        shares(Texts.built("zy\u00FF\u0080", "\u00FF\u0080zy"), 2, "zy");
        shares(Texts.built("\u00FF\u0080", "\u0080\u00FF"), 2, "\u0080");
        shares(Texts.built("\0b.\0a", "\0a,\0b"), 2, "\0a");
        shares(Texts.built("b", "ab", "a"), 2, "a");
    }

    private static void sharedNone() {
        Check.sentence("Promise 16", "(empty if there is none): its length.");
        SuffixIndex x = Texts.built("abab", "cdcd");
        x.repeat(2);
        shares(x, 2, "");
        x.repeat(2);
        x.clear();
        shares(x, 2, "");
        shares(new SuffixIndex(), 64, "");
        shares(Texts.built("aaaa"), 2, "");
        shares(Texts.built("a", "a"), 3, "");
    }

    private static void shares(SuffixIndex x, int m, String due) {
        Check.same("shared(" + m + ")", x.shared(m), due.length());
        Check.same("out of shared(" + m + ")", State.out(x), due);
    }

    private static void anotherShared() {
        Check.sentence("Promise 16", "IllegalArgumentException: another m.");
        for (SuffixIndex x : new SuffixIndex[] {new SuffixIndex(), Texts.built("banana", "ananas")}) {
            x.repeat(2);
            for (int m : new int[] {1, 0, -1, 65, 128, Integer.MIN_VALUE, Integer.MAX_VALUE}) {
                Check.refuses(x, "shared(" + m + ")", Check.ARGUMENT, () -> x.shared(m));
            }
        }
    }

    private static void differentPieces() {
        Check.sentence("Promise 17", "How many different PIECES there are.");
        SuffixIndex x = new SuffixIndex();
        Check.same("of nothing", x.pieces(), 0);
        Texts.add(x, "ab");
        Check.same("of one that is not indexed", x.pieces(), 0);
        x.build();
        Check.same("of ab", x.pieces(), 3);
        Texts.add(x, "ab");
        Texts.add(x, "b");
        x.build();
        Check.same("alike ones count once", x.pieces(), 3);
        Texts.add(x, "ba");
        x.build();
        Check.same("one more", x.pieces(), 4);
        x.clear();
        Check.same("behind a clear", x.pieces(), 0);
        Check.same("of one byte", Texts.built("\0").pieces(), 1);
        Check.same("of byte 0 alone", Texts.built("\0\0\0", "\0").pieces(), 3);
        StringBuilder all = new StringBuilder();
        for (int i = 0; i < 256; i++) {
            all.append((char) i);
        }
        Check.same("of all bytes", Texts.built(all.toString()).pieces(), 256 * 257 / 2);
    }

    private static void everyPiece() {
        Check.sentence("Promise 18", "OUT is the k-th different PIECE in ORDER, from 0: its length.");
        SuffixIndex x = Texts.built("b\u00FF", "b", "\0b\u00FF", "b\u00FF");
        String[] due = {"\0", "\0b", "\0b\u00FF", "b", "b\u00FF", "\u00FF"};
        for (int k = 0; k < due.length; k++) {
            Check.same("piece(" + k + ")", x.piece(k), due[k].length());
            Check.same("out of it", State.out(x), due[k]);
        }
        Check.same("the first again", x.piece(0), 1);
        SuffixIndex one = Texts.built("q");
        Check.same("the only one", one.piece(0), 1);
        Check.same("its byte", State.out(one), "q");
    }

    private static void pieceNone() {
        Check.sentence("Promise 18", "NoSuchElementException: there is none.");
        SuffixIndex x = new SuffixIndex();
        refusePiece(x, 0);
        Texts.add(x, "aba");
        refusePiece(x, 0);
        x.build();
        Check.same("the last", x.piece(4), 2);
        refusePiece(x, 5);
        x.clear();
        refusePiece(x, 0);
    }

    private static void refusePiece(SuffixIndex x, long from) {
        long[] wrong = {from, from + 1, -1, 1L << 32, (1L << 32) + 1, -(1L << 32), 1L << 62,
            Integer.MAX_VALUE, Integer.MIN_VALUE, Long.MAX_VALUE, Long.MIN_VALUE};
        for (long k : wrong) {
            Check.refuses(x, "piece(" + k + ")", Check.ELEMENT, () -> x.piece(k));
        }
    }

    private static void standsOnce() {
        Check.sentence("Promise 19", "OUT is the shortest PIECE of DOCUMENT d that stands in one WHERE alone,"
                + " of all that are INDEXED");
        SuffixIndex x = Texts.built("abc", "bcd", "cab");
        singles(x, 0, "abc");
        singles(x, 1, "d");
        singles(x, 2, "ca");
        Texts.add(x, "d");
        singles(x, 1, "d");
        x.build();
        singles(x, 1, "cd");
        singles(Texts.built("q"), 0, "q");
        singles(Texts.built("aaa"), 0, "aaa");
        singles(Texts.built("aa", "aaa"), 1, "aaa");
    }

    private static void leastPlace() {
        Check.sentence("Promise 19", "of several the one with the least PLACE");
        singles(Texts.built("zyx"), 0, "z");
        singles(Texts.built("xyzxy"), 0, "z");
        singles(Texts.built("cc", "abdba", "dab"), 1, "bd");
        singles(Texts.built("aabb"), 0, "aa");
        singles(Texts.built("q\u00FF\0q"), 0, "\u00FF");
    }

    private static void singleNone() {
        Check.sentence("Promise 19", "(empty if there is none): its length.");
        SuffixIndex x = Texts.built("ab", "abc", "b", "ab");
        x.piece(2);
        singles(x, 0, "");
        singles(x, 1, "c");
        singles(x, 2, "");
        singles(x, 3, "");
        SuffixIndex alike = Texts.built("q", "q");
        alike.piece(0);
        singles(alike, 1, "");
    }

    private static void singles(SuffixIndex x, int d, String due) {
        Check.same("single(" + d + ")", x.single(d), due.length());
        Check.same("out of single(" + d + ")", State.out(x), due);
    }

    private static void singleNotIndexed() {
        Check.sentence("Promise 19", "NoSuchElementException: DOCUMENT d is not INDEXED.");
        refuseEachDocument("single", (x, d) -> x.single(d));
    }

    private static void intoHowMany() {
        Check.sentence("Promise 20", "Into how many PHRASES DOCUMENT d is cut, from its beginning: each is the"
                + " longest PIECE from there on that stands in it at a lesser PLACE, too");
        SuffixIndex x = Texts.built("a", "ab", "aba", "abab", "abcabd", "abcbcab", "abab");
        int[] due = {1, 2, 3, 3, 5, 5, 3};
        for (int d = 0; d < due.length; d++) {
            Check.same("phrases(" + d + ")", x.phrases(d), due[d]);
        }
        for (int d = due.length - 1; d >= 0; d--) {
            Check.same("phrases(" + d + ") again", x.phrases(d), due[d]);
        }
    }

    private static void intoItself() {
        Check.sentence("Promise 20", "(also if it reaches into itself)");
        SuffixIndex x = Texts.built("aa", "aaa", Texts.times("a", 300), Texts.times("ab", 150));
        int[] due = {2, 2, 2, 3};
        for (int d = 0; d < due.length; d++) {
            Check.same("phrases(" + d + ")", x.phrases(d), due[d]);
        }
        Check.same("phrase(0, 1)", x.phrase(0, 1), 65536);
        Check.same("phrase(1, 1)", x.phrase(1, 1), 2 * 65536);
        Check.same("phrase(2, 1)", x.phrase(2, 1), 299 * 65536);
        Check.same("phrase(3, 2)", x.phrase(3, 2), 298 * 65536);
    }

    private static void oneByte() {
        Check.sentence("Promise 20", "or, if there is none, one byte.");
        StringBuilder all = new StringBuilder();
        for (int i = 0; i < 256; i++) {
            all.append((char) (255 - i));
        }
        SuffixIndex x = Texts.built(all.toString(), all.toString());
        for (int d = 0; d < 2; d++) {
            Check.same("what stands in another document is none", x.phrases(d), 256);
            Check.same("the first", x.phrase(d, 0), FRESH);
            Check.same("the last", x.phrase(d, 255), FRESH);
        }
    }

    private static void phrasesNotIndexed() {
        Check.sentence("Promise 20", "NoSuchElementException: DOCUMENT d is not INDEXED.");
        refuseEachDocument("phrases", (x, d) -> x.phrases(d));
    }

    private static void greatestLesserPlace() {
        Check.sentence("Promise 21", "65,536 times its length, and the greatest lesser PLACE at which it stands");
        SuffixIndex x = Texts.built("ab1ab2ab", "aabab", "abaaba");
        long[] first = {FRESH, FRESH, FRESH, 2 * 65536, FRESH, 2 * 65536 + 3};
        long[] second = {FRESH, 65536, FRESH, 2 * 65536 + 1};
        long[] third = {FRESH, FRESH, 65536, 3 * 65536};
        checkPhrases(x, 0, first);
        checkPhrases(x, 1, second);
        checkPhrases(x, 2, third);
        // The places before and behind it in ORDER, the greater one on either side.
        checkPhrases(Texts.built("ab3ab1ab2"), 0,
                new long[] {FRESH, FRESH, FRESH, 2 * 65536, FRESH, 2 * 65536 + 3, FRESH});
        checkPhrases(Texts.built("ab1ab3ab2"), 0,
                new long[] {FRESH, FRESH, FRESH, 2 * 65536, FRESH, 2 * 65536 + 3, FRESH});
        // The earlier place is the first or the last of all in ORDER.
        checkPhrases(Texts.built("aab"), 0, new long[] {FRESH, 65536, FRESH});
        checkPhrases(Texts.built("bba"), 0, new long[] {FRESH, 65536, FRESH});
        // A greater place at which only a part of it stands does not count.
        checkPhrases(Texts.built("ab1ac2ab"), 0,
                new long[] {FRESH, FRESH, FRESH, 65536, FRESH, FRESH, 2 * 65536});
        // Further places of the same byte in another document are not this one's.
        checkPhrases(Texts.built("aaaaaaa", "ba"), 1, new long[] {FRESH, FRESH});
    }

    private static void checkPhrases(SuffixIndex x, int d, long[] due) {
        Check.same("phrases(" + d + ")", x.phrases(d), due.length);
        for (int i = 0; i < due.length; i++) {
            Check.same("phrase(" + d + ", " + i + ")", x.phrase(d, i), due[i]);
        }
    }

    private static void singleByteAtNone() {
        Check.sentence("Promise 21", "or 65,535 if it is a single byte that stands at none.");
        checkPhrases(Texts.built("q"), 0, new long[] {FRESH});
        checkPhrases(Texts.built("qq"), 0, new long[] {FRESH, 65536});
        checkPhrases(Texts.built("\0\u00FF\0"), 0, new long[] {FRESH, FRESH, 65536});
        checkPhrases(Texts.built("abcb"), 0, new long[] {FRESH, FRESH, FRESH, 65536 + 1});
    }

    private static void phraseNone() {
        Check.sentence("Promise 21", "NoSuchElementException: there is none.");
        refuseEachDocument("phrase 0", (x, d) -> x.phrase(d, 0));
        refuseEachDocument("phrase -1", (x, d) -> x.phrase(d, -1));
        SuffixIndex x = Texts.built("banana", "q");
        int[] amounts = {4, 1};
        for (int d = 0; d < amounts.length; d++) {
            int number = d;
            x.phrase(d, amounts[d] - 1);
            for (int i : new int[] {amounts[d], 5, 6, 7, -1, Integer.MIN_VALUE, Integer.MAX_VALUE}) {
                Check.refuses(x, "phrase(" + d + ", " + i + ")", Check.ELEMENT, () -> x.phrase(number, i));
            }
        }
    }

    private static void byteAt() {
        Check.sentence("Promise 23", "The byte at a WHERE.");
        SuffixIndex x = Texts.built("\0\u007F\u0080\u00FF", "q");
        int[] due = {0, 127, 128, 255};
        for (int place = 0; place < due.length; place++) {
            Check.same("at(" + place + ")", x.at(place), due[place]);
        }
        Check.same("of the next document", x.at(65536), 'q');
    }

    private static void atNone() {
        Check.sentence("Promise 23", "NoSuchElementException: there is none.");
        refuseEachWhere("at", (x, where) -> x.at(where));
    }

    /** A question about a WHERE or a document's number. */
    private interface Question {
        long ask(SuffixIndex x, int number);
    }

    private static void refuseEachWhere(String what, Question question) {
        SuffixIndex x = new SuffixIndex();
        refuse(x, what, question, 0, 1, -1, 65536);
        Texts.add(x, "abc");
        refuse(x, what, question, 0, 1, -1, 65536);
        x.build();
        question.ask(x, 2);
        refuse(x, what, question, 3, 4, 65535, 65536, 65538);
        Texts.add(x, "de");
        refuse(x, what, question, 3, 65536, 65537);
        x.build();
        question.ask(x, 65537);
        refuse(x, what, question, 3, 4, 5, 6, 65535, 65538, 131071, 131072, -1, -65535, -65536, -131072,
                Integer.MIN_VALUE, Integer.MIN_VALUE + 1, Integer.MAX_VALUE, Texts.where(63, 0),
                Texts.where(64, 0), Texts.where(65, 1), Texts.where(32767, 0));
        x.clear();
        refuse(x, what, question, 0, 65536);
    }

    private static void refuseEachDocument(String what, Question question) {
        SuffixIndex x = new SuffixIndex();
        refuse(x, what, question, 0, -1, 1);
        Texts.add(x, "abc");
        refuse(x, what, question, 0);
        x.build();
        Texts.add(x, "de");
        refuse(x, what, question, 1, 2, -1);
        x.build();
        refuse(x, what, question, 2, 63, 64, 65, -1, -64, 65536, Integer.MIN_VALUE, Integer.MAX_VALUE);
        x.clear();
        refuse(x, what, question, 0, 1);
    }

    private static void refuse(SuffixIndex x, String what, Question question, int... wrong) {
        for (int number : wrong) {
            Check.refuses(x, what + " of " + number, Check.ELEMENT, () -> question.ask(x, number));
        }
    }
}
