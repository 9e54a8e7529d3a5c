/** The boundary sentences of promises 1 to 6, 22 and 24: what the object holds. */
public final class BoundaryStateTest {
    private static final int MOST_BYTES = 16384;

    public static void main(String[] args) {
        nothingAtFirst();
        highestByteFirst();
        lengthOfTheTape();
        noRoomForTwenty();
        onlyTheFirstStay();
        endOutside();
        tapeIsEmptyThen();
        numbers();
        addOfNothing();
        thereAre64();
        tooManyBytesInAll();
        allAreIndexed();
        buildForgetsTheSought();
        buildLeavesTapeAndOut();
        howManySuffixes();
        clearOfAll();
        clearLeavesNothingBehind();
        clearLeavesTapeAndOut();
        howManyThereWere();
        byteOfOut();
        counts();
        otherCounts();
        Check.finish("BoundaryStateTest");
    }

    private static void nothingAtFirst() {
        Check.sentence("Promise 1", "An empty TAPE and OUT, no DOCUMENTS, nothing INDEXED.");
        SuffixIndex x = new SuffixIndex();
        Check.refuses(x, "end(1)", Check.ARGUMENT, () -> x.end(1));
        Check.refuses(x, "add", Check.ARGUMENT, () -> x.add());
        Check.refuses(x, "seek", Check.ARGUMENT, () -> x.seek());
        Check.refuses(x, "out(0)", Check.BOUNDS, () -> x.out(0));
        Check.refuses(x, "single(0)", Check.ELEMENT, () -> x.single(0));
        Check.refuses(x, "phrases(0)", Check.ELEMENT, () -> x.phrases(0));
        Check.refuses(x, "phrase(0, 0)", Check.ELEMENT, () -> x.phrase(0, 0));
        Check.refuses(x, "at(0)", Check.ELEMENT, () -> x.at(0));
        Check.refuses(x, "rank(0)", Check.ELEMENT, () -> x.rank(0));
        Check.refuses(x, "common(0, 0)", Check.ELEMENT, () -> x.common(0, 0));
        Check.refuses(x, "piece(0)", Check.ELEMENT, () -> x.piece(0));
        Check.same("end(0)", x.end(0), 0);
        Check.same("clear", x.clear(), 0);
        Check.same("build", x.build(), 0);
        Check.same("first feed", x.feed(0, 0, 0, 0, 0), 20);
        Check.same("first document", x.add(), 0);
    }

    private static void highestByteFirst() {
        Check.sentence("Promise 2", "The four bytes of each number, the highest first, come to the TAPE");
        SuffixIndex x = new SuffixIndex();
        x.feed(0, -1, Integer.MIN_VALUE, Integer.MAX_VALUE, 0x01020304);
        x.feed(0xFF, 0xFF00, 0xFF0000, 0xFF000000, 0x80818283);
        x.add();
        x.build();
        Check.same("the document", Texts.document(x, 0),
                "\0\0\0\0\u00FF\u00FF\u00FF\u00FF\u0080\0\0\0\u007F\u00FF\u00FF\u00FF\1\2\3\4"
                + "\0\0\0\u00FF\0\0\u00FF\0\0\u00FF\0\0\u00FF\0\0\0\u0080\u0081\u0082\u0083");
    }

    private static void lengthOfTheTape() {
        Check.sentence("Promise 2", "its length");
        SuffixIndex x = new SuffixIndex();
        Check.same("from nothing", x.feed(1, 2, 3, 4, 5), 20);
        Check.same("from 20", x.feed(1, 2, 3, 4, 5), 40);
        x.end(3);
        Check.same("behind an end", x.feed(1, 2, 3, 4, 5), 23);
        x.end(0);
        Check.same("behind end(0)", x.feed(1, 2, 3, 4, 5), 20);
        x.add();
        Check.same("behind an add", x.feed(1, 2, 3, 4, 5), 20);
        x.seek();
        Check.same("behind a seek", x.feed(1, 2, 3, 4, 5), 20);
    }

    /** More calls than an object is promised to stand; the limit can't be reached with less. */
    private static void noRoomForTwenty() {
        Check.sentence("Promise 2", "IllegalStateException: there is no room for 20.");
        SuffixIndex x = new SuffixIndex();
        Texts.tape(x, Texts.times("f", MOST_BYTES - 20));
        Check.same("feed with room for 20", x.feed(1, 2, 3, 4, 5), MOST_BYTES);
        for (int length = MOST_BYTES; length > MOST_BYTES - 20; length--) {
            x.end(length);
            Check.refuses(x, "feed behind " + length, Check.STATE, () -> x.feed(-1, -1, -1, -1, -1));
        }
        Check.same("the last byte but one", x.end(MOST_BYTES - 19), MOST_BYTES - 19);
        x.add();
        Check.same("feed onto the next tape", x.feed(1, 2, 3, 4, 5), 20);
        x.build();
        Check.same("the byte of the feed that had room", x.at(MOST_BYTES - 20), 0);
        Check.same("the byte before it", x.at(MOST_BYTES - 21), 'f');
        Check.refuses(x, "at behind the last", Check.ELEMENT, () -> x.at(MOST_BYTES - 19));
    }

    private static void onlyTheFirstStay() {
        Check.sentence("Promise 3", "Only the first n bytes of the TAPE stay: n.");
        for (int n = 0; n <= 20; n++) {
            SuffixIndex x = new SuffixIndex();
            Texts.tape(x, "abcdefghijklmnopqrst");
            Check.same("end(" + n + ")", x.end(n), n);
            Check.same("the length then", x.count(3), n);
            Texts.tape(x, "!");
            x.add();
            x.build();
            Check.same("what stayed", Texts.document(x, 0), "abcdefghijklmnopqrst".substring(0, n) + "!");
        }
    }

    private static void endOutside() {
        Check.sentence("Promise 3", "IllegalArgumentException: n is not 0 .. its length.");
        SuffixIndex x = new SuffixIndex();
        for (int length : new int[] {0, 20, 19, 1, 0}) {
            if (x.count(3) < length) {
                x.feed(7, 7, 7, 7, 7);
            }
            Check.same("end(" + length + ")", x.end(length), length);
            for (int n : new int[] {length + 1, -1, Integer.MIN_VALUE, Integer.MAX_VALUE}) {
                Check.refuses(x, "end(" + n + ") of " + length, Check.ARGUMENT, () -> x.end(n));
            }
        }
        Check.same("bytes that are gone do not come back", x.count(3), 0);
    }

    private static void tapeIsEmptyThen() {
        Check.sentence("Promise 4", "The TAPE (empty then) is a new DOCUMENT");
        SuffixIndex x = new SuffixIndex();
        Texts.add(x, "abc");
        Check.same("the tape", x.count(3), 0);
        Check.refuses(x, "end(1)", Check.ARGUMENT, () -> x.end(1));
        Texts.add(x, "X");
        x.build();
        Check.same("the first", Texts.document(x, 0), "abc");
        Check.same("the next begins anew", Texts.document(x, 1), "X");
    }

    private static void numbers() {
        Check.sentence("Promise 4", "its number");
        SuffixIndex x = new SuffixIndex();
        for (int number = 0; number < 64; number++) {
            Check.same("add", Texts.add(x, "" + (char) number), number);
            if (number % 9 == 0) {
                x.build();
            }
        }
        x.build();
        for (int number = 0; number < 64; number++) {
            Check.same("its byte", x.at(Texts.where(number, 0)), number);
        }
        x.clear();
        Check.same("add behind a clear", Texts.add(x, "q"), 0);
    }

    private static void addOfNothing() {
        Check.sentence("Promise 4", "IllegalArgumentException: it is empty.");
        SuffixIndex x = new SuffixIndex();
        Check.refuses(x, "add at first", Check.ARGUMENT, () -> x.add());
        Texts.tape(x, "abc");
        x.end(0);
        Check.refuses(x, "add behind end(0)", Check.ARGUMENT, () -> x.add());
        Texts.add(x, "a");
        Check.refuses(x, "add behind an add", Check.ARGUMENT, () -> x.add());
        Texts.seek(x, "a");
        Check.refuses(x, "add behind a seek", Check.ARGUMENT, () -> x.add());
        Check.same("documents", x.count(0), 1);
        Check.same("one byte is enough", Texts.add(x, "b"), 1);
    }

    private static void thereAre64() {
        Check.sentence("Promise 4", "IllegalStateException: there are 64");
        SuffixIndex x = new SuffixIndex();
        for (int number = 0; number < 63; number++) {
            Texts.add(x, "d");
        }
        Check.same("the 64th", Texts.add(x, "e"), 63);
        Texts.tape(x, "f");
        Check.refuses(x, "a 65th, none is indexed", Check.STATE, () -> x.add());
        x.build();
        Check.refuses(x, "a 65th, all are indexed", Check.STATE, () -> x.add());
        Check.same("documents", x.count(0), 64);
        Check.same("its last one", Texts.document(x, 63), "e");
        x.clear();
        Check.same("behind a clear", x.add(), 0);
    }

    /** More calls than an object is promised to stand; the limit can't be reached with less. */
    private static void tooManyBytesInAll() {
        Check.sentence("Promise 4", "or too many bytes in all.");
        SuffixIndex x = new SuffixIndex();
        for (int number = 0; number < 63; number++) {
            Texts.add(x, Texts.times("" + (char) number, 260));
        }
        Texts.tape(x, "abcdef");
        Check.refuses(x, "6 bytes with room for 4", Check.STATE, () -> x.add());
        x.end(5);
        Check.refuses(x, "5 bytes with room for 4", Check.STATE, () -> x.add());
        x.end(4);
        Check.same("4 bytes with room for 4", x.add(), 63);
        Check.same("suffixes", x.build(), MOST_BYTES);
        Check.same("the last document", Texts.document(x, 63), "abcd");
        Check.same("the one before", Texts.document(x, 62), Texts.times("\76", 260));
        oneDocumentHasAllBytes();
    }

    private static void oneDocumentHasAllBytes() {
        SuffixIndex x = new SuffixIndex();
        Texts.tape(x, Texts.times("a", MOST_BYTES - 20));
        Texts.tape(x, Texts.times("a", 20));
        Check.same("one document of all bytes", x.add(), 0);
        Texts.tape(x, "b");
        Check.refuses(x, "one byte more", Check.STATE, () -> x.add());
        x.end(0);
        Check.refuses(x, "no byte more", Check.ARGUMENT, () -> x.add());
        Check.same("build", x.build(), MOST_BYTES);
        Check.same("the shortest suffix is first", x.suffix(0), MOST_BYTES - 1);
        Check.same("the longest is last", x.suffix(MOST_BYTES - 1), 0);
        Check.same("repeat(2)", x.repeat(2), MOST_BYTES - 1);
        Check.same("pieces", x.pieces(), MOST_BYTES);
        Check.same("the longest piece", x.piece(MOST_BYTES - 1), MOST_BYTES);
        Check.same("its last byte", x.out(MOST_BYTES - 1), 'a');
        Check.same("single(0)", x.single(0), MOST_BYTES);
        Check.same("phrases(0)", x.phrases(0), 2);
        Check.same("phrase(0, 1)", x.phrase(0, 1), 65536L * (MOST_BYTES - 1));
        Check.same("seek", Texts.seek(x, "a"), MOST_BYTES);
        Check.same("last found", x.found(MOST_BYTES - 1), MOST_BYTES - 1);
        Check.same("most(0)", x.most(0), 64 * MOST_BYTES);
        Check.same("near(3)", x.near(3), MOST_BYTES);
        Check.same("clear", x.clear(), 1);
        Check.same("room again behind a clear", Texts.add(x, "bb"), 0);
        Check.same("build then", x.build(), 2);
    }

    private static void allAreIndexed() {
        Check.sentence("Promise 5", "All DOCUMENTS are INDEXED");
        SuffixIndex x = new SuffixIndex();
        for (int number = 0; number < 64; number++) {
            Texts.add(x, "ab");
            Check.same("before the build", x.count(1), number);
            Check.same("build", x.build(), 2 * (number + 1));
            Check.same("indexed", x.count(1), number + 1);
            Check.same("the newest", x.at(Texts.where(number, 1)), 'b');
        }
    }

    private static void buildForgetsTheSought() {
        Check.sentence("Promise 5", "nothing was SOUGHT");
        SuffixIndex x = new SuffixIndex();
        for (String more : new String[] {"", "banana", "", "ananas"}) {
            if (!more.isEmpty()) {
                Texts.add(x, more);
            }
            Texts.seek(x, "ana");
            x.near(1);
            x.matched();
            x.build();
            Check.same("the length of it", x.count(5), 0);
            Check.refuses(x, "found(0)", Check.ELEMENT, () -> x.found(0));
            Check.refuses(x, "most(0)", Check.ELEMENT, () -> x.most(0));
            Check.refuses(x, "near(0)", Check.STATE, () -> x.near(0));
            Check.refuses(x, "matched", Check.STATE, () -> x.matched());
        }
        Check.same("sought anew", Texts.seek(x, "ana"), 4);
    }

    private static void buildLeavesTapeAndOut() {
        Check.sentence("Promise 5", "(the TAPE and OUT stay)");
        SuffixIndex x = Texts.built("banana");
        x.repeat(2);
        Texts.add(x, "cd");
        Texts.tape(x, "tape");
        x.build();
        Check.same("out", State.out(x), "ana");
        Check.same("the tape's length", x.count(3), 4);
        x.build();
        Check.same("out behind a second build", State.out(x), "ana");
        x.add();
        x.build();
        Check.same("the tape", Texts.document(x, 2), "tape");
    }

    private static void howManySuffixes() {
        Check.sentence("Promise 5", "how many SUFFIXES there are.");
        SuffixIndex x = new SuffixIndex();
        Check.same("of nothing", x.build(), 0);
        Texts.tape(x, "tape");
        Check.same("the tape is no document", x.build(), 0);
        x.end(1);
        x.add();
        Check.same("of one byte", x.build(), 1);
        Check.same("again", x.build(), 1);
        Texts.add(x, "t");
        Check.same("alike ones count each", x.build(), 2);
        x.clear();
        Check.same("behind a clear", x.build(), 0);
    }

    private static void clearOfAll() {
        Check.sentence("Promise 6", "There are no DOCUMENTS, nothing is INDEXED, nothing was SOUGHT");
        SuffixIndex x = Texts.built("banana", "ananas");
        Texts.seek(x, "ana");
        x.near(2);
        x.matched();
        x.phrases(1);
        x.clear();
        for (int what : new int[] {0, 1, 2, 5}) {
            Check.same("count(" + what + ")", x.count(what), 0);
        }
        Check.refuses(x, "found(0)", Check.ELEMENT, () -> x.found(0));
        Check.refuses(x, "most(0)", Check.ELEMENT, () -> x.most(0));
        Check.refuses(x, "near(0)", Check.STATE, () -> x.near(0));
        Check.refuses(x, "matched", Check.STATE, () -> x.matched());
        Check.refuses(x, "suffix(0)", Check.ELEMENT, () -> x.suffix(0));
        Check.refuses(x, "rank(0)", Check.ELEMENT, () -> x.rank(0));
        Check.refuses(x, "common(0, 0)", Check.ELEMENT, () -> x.common(0, 0));
        Check.refuses(x, "piece(0)", Check.ELEMENT, () -> x.piece(0));
        Check.refuses(x, "single(1)", Check.ELEMENT, () -> x.single(1));
        Check.refuses(x, "phrases(1)", Check.ELEMENT, () -> x.phrases(1));
        Check.refuses(x, "phrase(1, 0)", Check.ELEMENT, () -> x.phrase(1, 0));
        Check.refuses(x, "at(0)", Check.ELEMENT, () -> x.at(0));
        Texts.add(x, "cc");
        Texts.add(x, "dddd");
        Check.same("build of as many new ones", x.build(), 6);
        Check.same("the new ones", Texts.document(x, 0) + Texts.document(x, 1), "ccdddd");
        Check.same("phrases of a new one", x.phrases(1), 2);
        Check.same("what stood in the old ones", Texts.seek(x, "ana"), 0);
        Check.same("near it", x.near(3), 2);
        Check.same("matched of it", x.matched(), 0);
    }

    /** Fewer and shorter documents than before: nothing of the old ones may shine through. */
    private static void clearLeavesNothingBehind() {
        Check.sentence("Promise 6", "There are no DOCUMENTS, nothing is INDEXED");
        for (String old : new String[] {"a", "z", "ab", "\0", "\u00FF"}) {
            for (int length : new int[] {1, 2, 3, 7, 100}) {
                Run first = new Run().add(Texts.times(old, length), Texts.times(old, length)).call("build")
                        .seek(old).call("near", 3).call("phrases", 0).call("phrases", 1).call("repeat", 2)
                        .call("clear");
                for (String[] texts : new String[][] {{"a"}, {"zz"}, {"aba", "b"}, {"\u00FF", "\0\0"}}) {
                    Run then = askAll(texts);
                    Check.same(length + " times " + old + " before", then.answersOf(first.onNewObject()).toString(),
                            then.answersOf(new PlainModel()).toString());
                }
            }
        }
    }

    private static Run askAll(String[] texts) {
        Run run = new Run().add(texts).call("build").seek("a").call("matched").call("pieces");
        for (int k = 2; k <= 3; k++) {
            run.call("repeat", k).call("count", 4).call("shared", k).call("count", 4).call("near", k);
        }
        for (int i = 0; i < 5; i++) {
            run.call("found", i).call("most", i).call("suffix", i).call("rank", i).call("at", i)
                    .call("common", 0, i).call("piece", i).call("single", i).call("phrases", i)
                    .call("phrase", 0, i).call("phrase", 1, i);
        }
        return run;
    }

    private static void clearLeavesTapeAndOut() {
        Check.sentence("Promise 6", "(the TAPE and OUT stay)");
        SuffixIndex x = Texts.built("banana");
        x.repeat(2);
        Texts.tape(x, "tape");
        x.clear();
        x.clear();
        Check.same("out", State.out(x), "ana");
        Check.same("the tape's length", x.count(3), 4);
        x.add();
        x.build();
        Check.same("the tape", Texts.document(x, 0), "tape");
    }

    private static void howManyThereWere() {
        Check.sentence("Promise 6", "how many there were.");
        SuffixIndex x = new SuffixIndex();
        Check.same("of none", x.clear(), 0);
        Texts.add(x, "a");
        Check.same("of one that is not indexed", x.clear(), 1);
        Check.same("again", x.clear(), 0);
        for (int number = 0; number < 64; number++) {
            Texts.add(x, "a");
            if (number == 30) {
                x.build();
            }
        }
        Check.same("of 64, some of them indexed", x.clear(), 64);
    }

    private static void byteOfOut() {
        Check.sentence("Promise 22", "IndexOutOfBoundsException: there is none.");
        SuffixIndex x = Texts.built("\u00FFab", "\u00FFabc");
        Check.refuses(x, "out(0) at first", Check.BOUNDS, () -> x.out(0));
        x.shared(2);
        Check.same("the first byte", x.out(0), 255);
        Check.same("the last byte", x.out(2), 'b');
        for (int i : new int[] {3, -1, 16384, Integer.MAX_VALUE, Integer.MIN_VALUE}) {
            Check.refuses(x, "out(" + i + ")", Check.BOUNDS, () -> x.out(i));
        }
        x.piece(0);
        Check.refuses(x, "out(1) of a shorter one", Check.BOUNDS, () -> x.out(1));
        x.repeat(20);
        Check.refuses(x, "out(0) of an empty one", Check.BOUNDS, () -> x.out(0));
    }

    private static void counts() {
        Check.sentence("Promise 24", "0 DOCUMENTS; 1 INDEXED ones; 2 SUFFIXES; 3 the TAPE's length; 4 OUT's;"
                + " 5 how long what was SOUGHT is (0: nothing).");
        SuffixIndex x = new SuffixIndex();
        counts(x, 0, 0, 0, 0, 0, 0);
        x.feed(0, 0, 0, 0, 0);
        counts(x, 0, 0, 0, 20, 0, 0);
        x.add();
        counts(x, 1, 0, 0, 0, 0, 0);
        x.build();
        counts(x, 1, 1, 20, 0, 0, 0);
        x.repeat(20);
        counts(x, 1, 1, 20, 0, 1, 0);
        Texts.seek(x, "what stands nowhere");
        counts(x, 1, 1, 20, 0, 1, 19);
        Texts.add(x, "abc");
        counts(x, 2, 1, 20, 0, 1, 19);
        x.build();
        counts(x, 2, 2, 23, 0, 1, 0);
        Texts.seek(x, "a");
        x.clear();
        counts(x, 0, 0, 0, 0, 1, 0);
        x.repeat(20);
        counts(x, 0, 0, 0, 0, 0, 0);
    }

    private static void counts(SuffixIndex x, int... due) {
        for (int what = 0; what < due.length; what++) {
            Check.same("count(" + what + ")", x.count(what), due[what]);
        }
    }

    private static void otherCounts() {
        Check.sentence("Promise 24", "Else -1.");
        for (SuffixIndex x : new SuffixIndex[] {new SuffixIndex(), Texts.built("banana")}) {
            for (int what : new int[] {-1, 6, 7, 256, 65536, Integer.MIN_VALUE, Integer.MAX_VALUE}) {
                Check.same("count(" + what + ")", x.count(what), -1);
            }
        }
    }
}
