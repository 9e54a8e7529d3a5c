/** The boundary sentences of promises 7 to 11: what was SOUGHT. */
public final class BoundarySearchTest {
    private static final int[] NO_INDEX = {-1, Integer.MIN_VALUE, Integer.MAX_VALUE, 16384};

    public static void main(String[] args) {
        tapeIsSought();
        inHowManyWheres();
        lengthOfTheSought();
        risingWheres();
        foundNone();
        mostFirst();
        mostNone();
        someBytesOthers();
        asManyBytesInOneDocument();
        lastWhereIsTold();
        outStays();
        anotherK();
        nearNothing();
        longestBeginning();
        matchedNothing();
        Check.finish("BoundarySearchTest");
    }

    private static void tapeIsSought() {
        Check.sentence("Promise 7", "The TAPE (empty then) is SOUGHT");
        SuffixIndex x = Texts.built("abab");
        Texts.seek(x, "ab");
        Check.same("the tape", x.count(3), 0);
        Check.same("the sought", x.count(5), 2);
        Texts.seek(x, "bab");
        Check.same("a longer one in its stead", x.count(5), 3);
        Check.same("found of it", x.found(0), 1);
        Check.refuses(x, "found of the one before", Check.ELEMENT, () -> x.found(1));
        Texts.seek(x, "b");
        Check.same("a shorter one in its stead", x.count(5), 1);
        Check.same("matched of it", x.matched(), 1);
        Check.same("near of it", x.near(1), 4);
        Texts.seek(x, "x");
        Check.same("one that stands nowhere", x.count(5), 1);
        Check.refuses(x, "found of the one before that", Check.ELEMENT, () -> x.found(0));
    }

    private static void inHowManyWheres() {
        Check.sentence("Promise 7", "in how many WHERES it stands.");
        SuffixIndex x = Texts.built("aaaa", "a", "ba", "aa", "\0", "\u00FF");
        Check.same("one byte", Texts.seek(x, "a"), 8);
        Check.same("over one another", Texts.seek(x, "aa"), 4);
        Check.same("a whole document", Texts.seek(x, "aaaa"), 1);
        Check.same("one byte more than the longest", Texts.seek(x, "aaaaa"), 0);
        Check.same("at a document's end", Texts.seek(x, "ba"), 1);
        Check.same("from one document into the next", Texts.seek(x, "ab"), 0);
        Check.same("the least byte", Texts.seek(x, "\0"), 1);
        Check.same("the greatest byte", Texts.seek(x, "\u00FF"), 1);
        Check.same("before all of its kind", Texts.seek(x, "a\0"), 0);
        Check.same("behind all of its kind", Texts.seek(x, "a\u00FF"), 0);
        Check.same("behind all", Texts.seek(x, "\u00FF\u00FF"), 0);
        Check.same("before all", Texts.seek(x, "\0\0"), 0);
    }

    private static void lengthOfTheSought() {
        Check.sentence("Promise 7", "IllegalArgumentException: it has not 1 .. 200 bytes.");
        SuffixIndex x = Texts.built(Texts.times("s", 201), Texts.times("s", 200), Texts.times("s", 199));
        Check.refuses(x, "seek of nothing", Check.ARGUMENT, () -> x.seek());
        Check.same("1 byte", Texts.seek(x, "s"), 600);
        Check.refuses(x, "seek of nothing behind a seek", Check.ARGUMENT, () -> x.seek());
        Texts.tape(x, Texts.times("s", 220));
        for (int length : new int[] {220, 219, 202, 201}) {
            x.end(length);
            Check.refuses(x, "seek of " + length, Check.ARGUMENT, () -> x.seek());
        }
        Check.same("cut to 200", x.end(200), 200);
        Check.same("200 bytes", x.seek(), 3);
        Check.same("first of them", x.found(0), 0);
        Check.same("last of them", x.found(2), Texts.where(1, 0));
        Check.same("199 bytes", Texts.seek(x, Texts.times("s", 199)), 6);
        Texts.tape(x, Texts.times("s", 1000));
        Check.refuses(x, "seek of 1000", Check.ARGUMENT, () -> x.seek());
        Check.same("the tape is there still", x.add(), 3);
    }

    private static void risingWheres() {
        Check.sentence("Promise 8", "Where what was SOUGHT stands the i-th time, from 0, by rising WHERES.");
        SuffixIndex x = new SuffixIndex();
        for (int d = 0; d < 12; d++) {
            // The later the document, the earlier its suffixes in ORDER.
            Texts.add(x, "ab" + (char) ('z' - d) + "ab");
        }
        x.build();
        Check.same("seek", Texts.seek(x, "ab"), 24);
        for (int i = 0; i < 24; i++) {
            Check.same("found(" + i + ")", x.found(i), Texts.where(i / 2, i % 2 * 3));
        }
    }

    private static void foundNone() {
        Check.sentence("Promise 8", "NoSuchElementException: there is none, or nothing was SOUGHT.");
        SuffixIndex x = new SuffixIndex();
        refuseFound(x, 0);
        Texts.add(x, "abcab");
        refuseFound(x, 0);
        Texts.seek(x, "ab");
        refuseFound(x, 0);
        x.build();
        refuseFound(x, 0);
        Texts.seek(x, "ab");
        Check.same("the last", x.found(1), 3);
        refuseFound(x, 2);
        Texts.seek(x, "abx");
        refuseFound(x, 0);
        Texts.seek(x, "ca");
        Check.same("the only one", x.found(0), 2);
        refuseFound(x, 1);
        x.clear();
        refuseFound(x, 0);
    }

    private static void refuseFound(SuffixIndex x, int from) {
        Check.refuses(x, "found(" + from + ")", Check.ELEMENT, () -> x.found(from));
        for (int i : NO_INDEX) {
            Check.refuses(x, "found(" + i + ")", Check.ELEMENT, () -> x.found(i));
        }
    }

    private static void mostFirst() {
        Check.sentence("Promise 9", "those where it stands most often first, of several the least number:"
                + " how often times 64, and its number.");
        SuffixIndex x = new SuffixIndex();
        for (int d = 0; d < 64; d++) {
            Texts.add(x, d == 40 ? "none" : Texts.times("x", 1 + d % 3));
        }
        x.build();
        Texts.seek(x, "x");
        int i = 0;
        for (int often = 3; often >= 1; often--) {
            for (int d = 0; d < 64; d++) {
                if (d != 40 && 1 + d % 3 == often) {
                    Check.same("most(" + i + ")", x.most(i), 64 * often + d);
                    i++;
                }
            }
        }
        Check.refuses(x, "most(63)", Check.ELEMENT, () -> x.most(63));
        Texts.seek(x, "xxx");
        Check.same("once in the first", x.most(0), 64 + 2);
        Check.same("once in the last", x.most(20), 64 + 62);
        Texts.seek(x, "none");
        Check.same("in one alone", x.most(0), 64 + 40);
    }

    private static void mostNone() {
        Check.sentence("Promise 9", "NoSuchElementException: there is none.");
        SuffixIndex x = new SuffixIndex();
        refuseMost(x, 0);
        Texts.add(x, "abcab");
        Texts.add(x, "ab");
        Texts.seek(x, "ab");
        refuseMost(x, 0);
        x.build();
        refuseMost(x, 0);
        Texts.seek(x, "ab");
        Check.same("the last", x.most(1), 64 + 1);
        refuseMost(x, 2);
        Texts.seek(x, "bb");
        refuseMost(x, 0);
        x.clear();
        refuseMost(x, 0);
    }

    private static void refuseMost(SuffixIndex x, int from) {
        Check.refuses(x, "most(" + from + ")", Check.ELEMENT, () -> x.most(from));
        for (int i : NO_INDEX) {
            Check.refuses(x, "most(" + i + ")", Check.ELEMENT, () -> x.most(i));
        }
    }

    private static void someBytesOthers() {
        Check.sentence("Promise 10", "if at most k of its bytes, 0 .. 3, may be others");
        SuffixIndex x = Texts.built("abcdef", "xbcdef", "xycdef", "abcxyz", "xyzwef", "vwxyzu");
        Texts.seek(x, "abcdef");
        int[] due = {1, 2, 3, 4};
        for (int k = 3; k >= 0; k--) {
            Check.same("near(" + k + ")", x.near(k), due[k]);
        }
        SuffixIndex edges = Texts.built("Xbcd", "abcX", "XbcX");
        Texts.seek(edges, "abcd");
        Check.same("as it is", edges.near(0), 0);
        Check.same("the first byte or the last", edges.near(1), 2);
        Check.same("the first byte and the last", edges.near(2), 3);
        Texts.seek(edges, "b");
        Check.same("one byte as it is", edges.near(0), 3);
        Check.same("any byte, each where once", edges.near(1), 12);
        Check.same("no more if more may be others", edges.near(3), 12);
        Texts.seek(edges, "zzz");
        Check.same("two of three", edges.near(2), 0);
        Check.same("three of three", edges.near(3), 6);
        SuffixIndex bytes = Texts.built("\0\u00FF", "\u00FF\0");
        Texts.seek(bytes, "\0\0");
        Check.same("bytes 0 and 255", bytes.near(1), 2);
        Check.same("neither stands as it is", bytes.near(0), 0);
    }

    private static void asManyBytesInOneDocument() {
        Check.sentence("Promise 10", "(as many bytes, in one DOCUMENT)");
        SuffixIndex x = Texts.built("abc", "de", "f", "ghi");
        Texts.seek(x, "qqq");
        Check.same("three bytes", x.near(3), 2);
        Texts.seek(x, "qq");
        Check.same("two bytes", x.near(3), 5);
        Texts.seek(x, "q");
        Check.same("one byte", x.near(3), 9);
        Texts.seek(x, "abcd");
        Check.same("into the next document", x.near(3), 0);
        SuffixIndex one = Texts.built("pqr");
        Texts.seek(one, "pqr");
        Check.same("a whole document", one.near(0), 1);
        Texts.seek(one, "pqrs");
        Check.same("longer by one that may be another", one.near(1), 0);
        SuffixIndex two = Texts.built(Texts.times("l", 199), Texts.times("l", 200), Texts.times("l", 201));
        Texts.seek(two, "X" + Texts.times("l", 198) + "X");
        Check.same("200 bytes, two of them others", two.near(2), 3);
        Check.same("200 bytes, one of them another", two.near(1), 0);
    }

    private static void lastWhereIsTold() {
        Check.sentence("Promise 10", "OUT is the one of them that is the last WHERE, as it stands there");
        SuffixIndex x = Texts.built("abcd", "abcX", "aYcX", "WYcX");
        Texts.seek(x, "abcd");
        String[] due = {"abcd", "abcX", "aYcX", "WYcX"};
        for (int k : new int[] {3, 0, 2, 1, 3}) {
            Check.same("near(" + k + ")", x.near(k), k + 1);
            Check.same("out of near(" + k + ")", State.out(x), due[k]);
        }
        SuffixIndex back = Texts.built("WYcX", "abcX", "abcd", "q");
        Texts.seek(back, "abcd");
        for (int k = 0; k <= 3; k++) {
            back.near(k);
            Check.same("the last is alike: out of near(" + k + ")", State.out(back), "abcd");
        }
        SuffixIndex inOne = Texts.built("abaXab", "aZ");
        Texts.seek(inOne, "ab");
        Check.same("in one document", inOne.near(0), 2);
        Check.same("as it is there", State.out(inOne), "ab");
        Check.same("changed in the last document", inOne.near(1), 4);
        Check.same("as it is in that", State.out(inOne), "aZ");
    }

    private static void outStays() {
        Check.sentence("Promise 10", "(stays if there is none)");
        SuffixIndex x = Texts.built("banana");
        x.repeat(2);
        Texts.seek(x, "xyzw");
        for (int k = 0; k <= 3; k++) {
            Check.same("near(" + k + ")", x.near(k), 0);
            Check.same("out", State.out(x), "ana");
        }
        Texts.seek(x, "nxn");
        Check.same("near(1)", x.near(1), 1);
        Check.same("out then", State.out(x), "nan");
        Check.same("near(0)", x.near(0), 0);
        Check.same("out of near(1) stays", State.out(x), "nan");
        x.clear();
        Texts.seek(x, "n");
        Check.same("near of nothing indexed", x.near(3), 0);
        Check.same("out stays then, too", State.out(x), "nan");
    }

    private static void anotherK() {
        Check.sentence("Promise 10", "IllegalArgumentException: another k.");
        SuffixIndex x = Texts.built("banana");
        int[] wrong = {-1, 4, 5, Integer.MIN_VALUE, Integer.MAX_VALUE};
        for (int k : wrong) {
            Check.refuses(x, "near(" + k + "), nothing was sought", Check.ARGUMENT, () -> x.near(k));
        }
        Texts.seek(x, "ana");
        for (int k : wrong) {
            Check.refuses(x, "near(" + k + ")", Check.ARGUMENT, () -> x.near(k));
        }
        Check.same("near(0)", x.near(0), 2);
        Check.same("near(3)", x.near(3), 4);
    }

    private static void nearNothing() {
        Check.sentence("Promise 10", "IllegalStateException: nothing was SOUGHT.");
        SuffixIndex x = new SuffixIndex();
        refuseNear(x);
        Texts.add(x, "banana");
        x.build();
        refuseNear(x);
        Texts.seek(x, "q");
        Check.same("what stands nowhere was sought", x.near(0), 0);
        x.build();
        refuseNear(x);
        Texts.seek(x, "a");
        x.clear();
        refuseNear(x);
    }

    private static void refuseNear(SuffixIndex x) {
        for (int k = 0; k <= 3; k++) {
            int changed = k;
            Check.refuses(x, "near(" + k + ")", Check.STATE, () -> x.near(changed));
        }
    }

    private static void longestBeginning() {
        Check.sentence("Promise 11", "How long the longest beginning of what was SOUGHT is that stands"
                + " anywhere, from byte i of it on, and so for all i: the sum.");
        SuffixIndex x = Texts.built("aa", "bc", "\0\u00FF");
        matches(x, "a", 1);
        matches(x, "q", 0);
        matches(x, "aa", 2 + 1);
        matches(x, "aaa", 2 + 2 + 1);
        matches(x, "ab", 1 + 1);
        matches(x, "aabc", 2 + 1 + 2 + 1);
        matches(x, "qaq", 1);
        matches(x, "bcq", 2 + 1);
        matches(x, "\0", 1);
        matches(x, "\u00FF\0\u00FF", 1 + 2 + 1);
        matches(x, Texts.times("a", 200), 199 * 2 + 1);
        matches(Texts.built(Texts.times("a", 200)), Texts.times("a", 200), 200 * 201 / 2);
        matches(Texts.built(Texts.times("a", 199)), Texts.times("a", 200), 200 * 201 / 2 - 1);
        matches(new SuffixIndex(), "a", 0);
    }

    private static void matches(SuffixIndex x, String sought, int due) {
        Texts.seek(x, sought);
        Check.same("matched of " + sought, x.matched(), due);
        Check.same("matched of it again", x.matched(), due);
    }

    private static void matchedNothing() {
        Check.sentence("Promise 11", "IllegalStateException: nothing was SOUGHT.");
        SuffixIndex x = new SuffixIndex();
        Check.refuses(x, "at first", Check.STATE, () -> x.matched());
        Texts.add(x, "banana");
        x.build();
        Check.refuses(x, "behind a build", Check.STATE, () -> x.matched());
        Texts.seek(x, "an");
        Check.same("sought", x.matched(), 3);
        x.build();
        Check.refuses(x, "behind another build", Check.STATE, () -> x.matched());
        Texts.seek(x, "an");
        x.clear();
        Check.refuses(x, "behind a clear", Check.STATE, () -> x.matched());
    }
}
