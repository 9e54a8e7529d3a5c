/** The sentences under 'What it is' and 'Terms', which belong to all promises. */
public final class TermsTest {
    private static final int MOST_BYTES = 16384;

    public static void main(String[] args) {
        atMost512Calls();
        bytesOfTheTape();
        documentsAtMost64();
        withOneByteOrMore();
        bytesInAll();
        indexedAtTheLatestBuild();
        placesFromZero();
        suffixToTheEnd();
        pieceOfOneByteOrMore();
        pieceInOneDocument();
        byteByByte();
        whatEndsComesFirst();
        alikeByNumbers();
        wheres();
        outNoneAtFirst();
        outIsWhatAnAnswerTold();
        firstNamedException();
        nothingIndexed();
        Check.finish("TermsTest");
    }

    private static void atMost512Calls() {
        Check.sentence("What it is", "An object is used for at most 512 calls after it has been made");
        SuffixIndex x = new SuffixIndex();
        for (int call = 0; call < 500; call++) {
            x.feed(0x61616161, 0x61616161, 0x61616161, 0x61616161, 0x61616161);
        }
        Check.same("call 501", x.add(), 0);
        Check.same("call 502", x.build(), 10000);
        Check.same("call 503", x.feed(0x61616161, 0x61616161, 0x61616161, 0x61616161, 0x61616161), 20);
        Check.same("call 504", x.seek(), 9981);
        Check.same("call 505", x.found(9980), 9980);
        Check.same("call 506", x.near(3), 9981);
        Check.same("call 507", x.matched(), 210);
        Check.same("call 508", x.repeat(20), 9981);
        Check.same("call 509", x.phrase(0, 1), 65536L * 9999);
        Check.same("call 510", x.pieces(), 10000);
        Check.same("call 511", x.clear(), 1);
        Check.same("call 512", x.count(4), 9981);
    }

    private static void bytesOfTheTape() {
        Check.sentence("Terms", "THE TAPE: bytes gathered by feed, at most 16,384.");
        SuffixIndex x = new SuffixIndex();
        Texts.tape(x, Texts.times("t", MOST_BYTES - 20));
        x.feed(1, 2, 3, 4, 5);
        Check.same("a full tape", x.count(3), MOST_BYTES);
        Check.refuses(x, "one feed more", Check.STATE, () -> x.feed(1, 2, 3, 4, 5));
        Check.refuses(x, "end behind it", Check.ARGUMENT, () -> x.end(MOST_BYTES + 1));
        Check.same("end of all of it", x.end(MOST_BYTES), MOST_BYTES);
        x.add();
        x.build();
        Check.same("its first byte", x.at(0), 't');
        Check.same("its last byte", x.at(MOST_BYTES - 1), 5);
    }

    private static void documentsAtMost64() {
        Check.sentence("Terms", "DOCUMENTS: at most 64, numbered from 0");
        SuffixIndex x = new SuffixIndex();
        for (int number = 0; number < 64; number++) {
            Check.same("number", Texts.add(x, "ab"), number);
        }
        Texts.tape(x, "c");
        Check.refuses(x, "one more", Check.STATE, () -> x.add());
        Check.same("suffixes of 64", x.build(), 128);
        Check.same("the byte of the last", x.at(Texts.where(63, 1)), 'b');
        Check.same("phrases of the last", x.phrases(63), 2);
        Check.same("single of the last", x.single(63), 0);
        Check.same("what all have", x.shared(64), 2);
    }

    private static void withOneByteOrMore() {
        Check.sentence("Terms", "with 1 or more bytes");
        SuffixIndex x = new SuffixIndex();
        Check.refuses(x, "add of no byte", Check.ARGUMENT, () -> x.add());
        Texts.add(x, "\0");
        Texts.add(x, "a");
        Check.same("suffixes of two of one byte", x.build(), 2);
        Check.same("the first", Texts.document(x, 0), "\0");
        Check.same("the second", Texts.document(x, 1), "a");
        Check.same("phrases of one byte", x.phrases(1), 1);
        Check.same("single of one byte", x.single(0), 1);
    }

    private static void bytesInAll() {
        Check.sentence("Terms", "16,384 in all");
        SuffixIndex x = new SuffixIndex();
        Texts.add(x, Texts.times("a", 16000));
        Texts.add(x, Texts.times("b", 383));
        Texts.tape(x, "cc");
        Check.refuses(x, "one byte too many", Check.STATE, () -> x.add());
        x.end(1);
        Check.same("just enough", x.add(), 2);
        Check.same("build", x.build(), MOST_BYTES);
        Check.same("the last suffix", x.suffix(MOST_BYTES - 1), Texts.where(2, 0));
        Check.same("pieces", x.pieces(), 16000 + 383 + 1);
        x.clear();
        Check.same("add behind a clear", Texts.add(x, Texts.times("d", 300)), 0);
        Check.same("build behind it", x.build(), 300);
        Check.same("pieces behind it", x.pieces(), 300);
    }

    private static void indexedAtTheLatestBuild() {
        Check.sentence("Terms", "INDEXED are those that were there at the latest build;"
                + " all questions are about them alone.");
        SuffixIndex x = Texts.built("abcX");
        Texts.add(x, "abcabcabc");
        Check.same("seek", Texts.seek(x, "abc"), 1);
        Check.refuses(x, "found(1)", Check.ELEMENT, () -> x.found(1));
        Check.same("most(0)", x.most(0), 64);
        Check.refuses(x, "most(1)", Check.ELEMENT, () -> x.most(1));
        Check.same("near(3)", x.near(3), 2);
        Check.same("out of near(3)", State.out(x), "bcX");
        Check.same("matched", x.matched(), 3 + 2 + 1);
        Check.refuses(x, "suffix(4)", Check.ELEMENT, () -> x.suffix(4));
        Check.same("rank(0)", x.rank(0), 1);
        Check.refuses(x, "rank of the new one", Check.ELEMENT, () -> x.rank(65536));
        Check.refuses(x, "common with the new one", Check.ELEMENT, () -> x.common(0, 65536));
        Check.same("repeat(2)", x.repeat(2), 0);
        Check.same("shared(2)", x.shared(2), 0);
        Check.same("pieces", x.pieces(), 10);
        Check.refuses(x, "piece(10)", Check.ELEMENT, () -> x.piece(10));
        Check.same("single(0)", x.single(0), 1);
        Check.same("out of single(0)", State.out(x), "a");
        Check.refuses(x, "single(1)", Check.ELEMENT, () -> x.single(1));
        Check.refuses(x, "phrases(1)", Check.ELEMENT, () -> x.phrases(1));
        Check.refuses(x, "phrase(1, 0)", Check.ELEMENT, () -> x.phrase(1, 0));
        Check.refuses(x, "at of the new one", Check.ELEMENT, () -> x.at(65536));
        Check.same("indexed ones", x.count(1), 1);
        Check.same("suffixes", x.count(2), 4);
        x.build();
        Check.same("seek then", Texts.seek(x, "abc"), 4);
        Check.same("matched then", x.matched(), 6);
        Check.same("near(3) then", x.near(3), 9);
        Check.same("repeat(2) then", x.repeat(2), 6);
        Check.same("shared(2) then", x.shared(2), 3);
        Check.same("single(0) then", x.single(0), 1);
        Check.same("out of it then", State.out(x), "X");
        Check.same("phrases(1) then", x.phrases(1), 4);
    }

    private static void placesFromZero() {
        Check.sentence("Terms", "PLACES in a DOCUMENT from 0.");
        SuffixIndex x = Texts.built("ab", "cd");
        Check.same("the first of the first", x.at(0), 'a');
        Check.same("the last of the first", x.at(1), 'b');
        Check.refuses(x, "behind the first", Check.ELEMENT, () -> x.at(2));
        Check.same("the first of the second", x.at(65536), 'c');
        Check.same("found", Texts.seek(x, "c") * 65536L, x.found(0));
    }

    private static void suffixToTheEnd() {
        Check.sentence("Terms", "A SUFFIX: what stands from a PLACE to its DOCUMENT's end.");
        SuffixIndex x = Texts.built("a", "bb", "ccc");
        Check.same("as many as bytes", x.build(), 6);
        for (int place = 0; place < 3; place++) {
            int where = Texts.where(2, place);
            Check.same("the length of one", x.common(where, where), 3 - place);
        }
        Check.same("none reaches into the next document", x.common(0, 0), 1);
        Check.refuses(x, "none is empty", Check.ELEMENT, () -> x.rank(1));
    }

    private static void pieceOfOneByteOrMore() {
        Check.sentence("Terms", "A PIECE: one byte or more");
        SuffixIndex x = Texts.built("a");
        Check.same("pieces of one byte", x.pieces(), 1);
        Check.same("the first is not empty", x.piece(0), 1);
        Check.same("an empty one does not repeat", Texts.built("ab").repeat(2), 0);
        Check.same("an empty one is not shared", Texts.built("a", "b").shared(2), 0);
        Check.same("an empty one is not single", Texts.built("a", "a").single(0), 0);
    }

    private static void pieceInOneDocument() {
        Check.sentence("Terms", "that stand one behind the other in one DOCUMENT.");
        SuffixIndex x = Texts.built("ab", "ab", "ab");
        Check.same("pieces", x.pieces(), 3);
        Check.same("repeat(2)", x.repeat(2), 2);
        Check.same("shared(2)", x.shared(2), 2);
        Check.same("seek from one into the next", Texts.seek(x, "ba"), 0);
        Check.same("near from one into the next", x.near(0), 0);
        Check.same("matched from one into the next", x.matched(), 2);
        Check.same("phrases", x.phrases(1), 2);
        Check.same("single", x.single(1), 0);
        SuffixIndex gaps = Texts.built("acb");
        Check.same("not with another byte between", Texts.seek(gaps, "ab"), 0);
    }

    private static void byteByByte() {
        Check.sentence("Terms", "ORDER: byte by byte (0 .. 255)");
        StringBuilder falling = new StringBuilder();
        for (int i = 255; i >= 0; i--) {
            falling.append((char) i);
        }
        SuffixIndex x = Texts.built(falling.toString());
        long piece = 0;
        for (int i = 0; i < 256; i++) {
            Check.same("suffix(" + i + ")", x.suffix(i), 255 - i);
            Check.same("rank of it", x.rank(255 - i), i);
            x.piece(piece);
            Check.same("first piece with byte " + i, State.out(x), "" + (char) i);
            piece += i + 1;
        }
    }

    private static void whatEndsComesFirst() {
        Check.sentence("Terms", "what ends before another one that begins with it comes first");
        SuffixIndex x = Texts.built("a\0\0", "a\0", "a");
        int[] due = {2, Texts.where(1, 1), 1, Texts.where(2, 0), Texts.where(1, 0), 0};
        for (int i = 0; i < due.length; i++) {
            Check.same("suffix(" + i + ")", x.suffix(i), due[i]);
        }
        String[] pieces = {"\0", "\0\0", "a", "a\0", "a\0\0"};
        for (int k = 0; k < pieces.length; k++) {
            x.piece(k);
            Check.same("piece(" + k + ")", State.out(x), pieces[k]);
        }
        SuffixIndex one = Texts.built("\0\0\0\0");
        for (int i = 0; i < 4; i++) {
            Check.same("of one document: suffix(" + i + ")", one.suffix(i), 3 - i);
        }
    }

    private static void alikeByNumbers() {
        Check.sentence("Terms", "SUFFIXES that are alike by their DOCUMENTS' numbers");
        SuffixIndex x = new SuffixIndex();
        for (int d = 0; d < 64; d++) {
            Texts.add(x, d % 2 == 0 ? "xq" : "q");
        }
        x.build();
        for (int d = 0; d < 64; d++) {
            Check.same("suffix(" + d + ")", x.suffix(d), Texts.where(d, d % 2 == 0 ? 1 : 0));
        }
        for (int i = 0; i < 32; i++) {
            Check.same("suffix(" + (64 + i) + ")", x.suffix(64 + i), Texts.where(2 * i, 0));
        }
    }

    private static void wheres() {
        Check.sentence("Terms", "A WHERE is 65,536 times the DOCUMENT's number and the PLACE.");
        SuffixIndex x = new SuffixIndex();
        for (int d = 0; d < 63; d++) {
            Texts.add(x, "b");
        }
        Texts.add(x, "bba");
        x.build();
        Check.same("found", Texts.seek(x, "a") + x.found(0), 1 + 63 * 65536 + 2);
        Check.same("suffix", x.suffix(0), 63 * 65536 + 2);
        Check.same("rank", x.rank(63 * 65536 + 2), 0);
        Check.same("at", x.at(63 * 65536 + 1), 'b');
        Check.same("common", x.common(63 * 65536, 62 * 65536), 1);
        Check.refuses(x, "a place behind the end", Check.ELEMENT, () -> x.at(62 * 65536 + 1));
        Check.refuses(x, "a number behind the last", Check.ELEMENT, () -> x.at(64 * 65536));
    }

    private static void outNoneAtFirst() {
        Check.sentence("Terms", "OUT: bytes that an answer told, none at first.");
        SuffixIndex x = new SuffixIndex();
        Check.same("at first", x.count(4), 0);
        Texts.add(x, "banana");
        x.build();
        Texts.seek(x, "ana");
        x.found(0);
        x.most(0);
        x.matched();
        x.suffix(0);
        x.rank(0);
        x.common(0, 1);
        x.pieces();
        x.phrases(0);
        x.phrase(0, 0);
        x.at(0);
        Check.same("behind calls that tell none", x.count(4), 0);
        Check.refuses(x, "out(0)", Check.BOUNDS, () -> x.out(0));
    }

    private static void outIsWhatAnAnswerTold() {
        Check.sentence("Terms", "OUT: bytes that an answer told");
        SuffixIndex x = Texts.built("banana", "bandana");
        x.repeat(2);
        Check.same("by repeat", State.out(x), "ana");
        x.shared(2);
        Check.same("by shared", State.out(x), "ana");
        x.piece(0);
        Check.same("by piece", State.out(x), "a");
        x.single(1);
        Check.same("by single", State.out(x), "d");
        Texts.seek(x, "band");
        x.near(1);
        Check.same("by near", State.out(x), "band");
        x.clear();
        Texts.add(x, "qqqq");
        x.build();
        Check.same("what was told stays what it was", State.out(x), "band");
    }

    private static void firstNamedException() {
        Check.sentence("Terms", "of two exceptions the one that is named first is thrown.");
        SuffixIndex x = new SuffixIndex();
        for (int d = 0; d < 64; d++) {
            Texts.add(x, "a");
        }
        Check.refuses(x, "add: no tape, and 64 documents", Check.ARGUMENT, () -> x.add());
        Check.refuses(x, "near: another k, and nothing sought", Check.ARGUMENT, () -> x.near(4));
        Check.refuses(x, "near: another k below, and nothing sought", Check.ARGUMENT, () -> x.near(-1));
        Check.refuses(x, "near: nothing sought", Check.STATE, () -> x.near(3));
        Texts.tape(x, "a");
        Check.refuses(x, "add: 64 documents", Check.STATE, () -> x.add());
    }

    private static void nothingIndexed() {
        Check.sentence("Terms", "If nothing is INDEXED counts and lengths are 0.");
        SuffixIndex fresh = new SuffixIndex();
        allZero(fresh, "a new object");
        SuffixIndex unbuilt = new SuffixIndex();
        Texts.add(unbuilt, "banana");
        Texts.add(unbuilt, "banana");
        allZero(unbuilt, "not built");
        SuffixIndex cleared = Texts.built("banana", "banana");
        cleared.repeat(2);
        cleared.clear();
        allZero(cleared, "cleared");
        Texts.add(cleared, "banana");
        allZero(cleared, "cleared, and one more");
        SuffixIndex builtOfNone = new SuffixIndex();
        builtOfNone.build();
        allZero(builtOfNone, "built of none");
    }

    private static void allZero(SuffixIndex x, String what) {
        Check.same(what + ": seek", Texts.seek(x, "ana"), 0);
        Check.same(what + ": matched", x.matched(), 0);
        for (int k = 0; k <= 3; k++) {
            Check.same(what + ": near(" + k + ")", x.near(k), 0);
        }
        for (int m = 2; m <= 20; m++) {
            Check.same(what + ": repeat(" + m + ")", x.repeat(m), 0);
        }
        for (int m = 2; m <= 64; m++) {
            Check.same(what + ": shared(" + m + ")", x.shared(m), 0);
        }
        Check.same(what + ": out", x.count(4), 0);
        Check.same(what + ": pieces", x.pieces(), 0);
        Check.same(what + ": indexed", x.count(1), 0);
        Check.same(what + ": suffixes", x.count(2), 0);
    }
}
