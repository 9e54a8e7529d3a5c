/** Each promise by itself: ordinary inputs, the edges that the document names, and wrong inputs. */
public final class PromisesTest {
    public static void main(String[] args) {
        newObject();
        feed();
        end();
        add();
        addLimits();
        build();
        clear();
        seek();
        found();
        most();
        near();
        nearEdges();
        matched();
        suffix();
        rank();
        common();
        repeat();
        shared();
        pieces();
        piece();
        single();
        phrases();
        phrase();
        out();
        at();
        count();
        Check.finish("PromisesTest");
    }

    private static void newObject() {
        SuffixIndex x = new SuffixIndex();
        for (int what = 0; what <= 5; what++) {
            Check.same("1: count(" + what + ") of a new object", x.count(what), 0);
        }
        Check.same("1: pieces", x.pieces(), 0);
        Check.refuses(x, "1: out(0)", Check.BOUNDS, () -> x.out(0));
        Check.refuses(x, "1: suffix(0)", Check.ELEMENT, () -> x.suffix(0));
        Check.refuses(x, "1: found(0)", Check.ELEMENT, () -> x.found(0));
        Check.refuses(x, "1: most(0)", Check.ELEMENT, () -> x.most(0));
        Check.refuses(x, "1: near(0)", Check.STATE, () -> x.near(0));
        Check.refuses(x, "1: matched", Check.STATE, () -> x.matched());
        Check.same("1: repeat(2)", x.repeat(2), 0);
        Check.same("1: shared(2)", x.shared(2), 0);
        SuffixIndex other = new SuffixIndex();
        Texts.add(other, "one");
        Check.same("1: documents of another object", x.count(0), 0);
    }

    private static void feed() {
        SuffixIndex x = new SuffixIndex();
        Check.same("2: feed", x.feed(0x01020304, -1, 0x80000000, 0x7F00FF80, 5), 20);
        Check.same("2: feed again", x.feed(0, 0, 0, 0, 0x000000FE), 40);
        x.add();
        x.build();
        int[] due = {1, 2, 3, 4, 255, 255, 255, 255, 128, 0, 0, 0, 127, 0, 255, 128, 0, 0, 0, 5};
        for (int place = 0; place < due.length; place++) {
            Check.same("2: byte " + place, x.at(place), due[place]);
        }
        Check.same("2: last byte", x.at(39), 254);
        fullTape();
    }

    /** More calls than an object is promised to stand; the limit can't be reached with less. */
    private static void fullTape() {
        SuffixIndex x = new SuffixIndex();
        for (int length = 20; length <= 16380; length += 20) {
            Check.same("2: tape", x.feed(1, 2, 3, 4, 5), length);
        }
        Check.refuses(x, "2: feed with room for 4", Check.STATE, () -> x.feed(1, 2, 3, 4, 5));
        Check.same("2: end", x.end(16364), 16364);
        Check.same("2: feed with room for 20", x.feed(1, 2, 3, 4, 5), 16384);
        Check.refuses(x, "2: feed on a full tape", Check.STATE, () -> x.feed(1, 2, 3, 4, 5));
    }

    private static void end() {
        SuffixIndex x = new SuffixIndex();
        Check.same("3: end(0) of an empty tape", x.end(0), 0);
        Check.refuses(x, "3: end(1) of an empty tape", Check.ARGUMENT, () -> x.end(1));
        Texts.tape(x, "abcdef");
        Check.same("3: end(6)", x.end(6), 6);
        Check.refuses(x, "3: end(7)", Check.ARGUMENT, () -> x.end(7));
        Check.refuses(x, "3: end(-1)", Check.ARGUMENT, () -> x.end(-1));
        Check.refuses(x, "3: end(least)", Check.ARGUMENT, () -> x.end(Integer.MIN_VALUE));
        Check.same("3: end(3)", x.end(3), 3);
        Check.same("3: length", x.count(3), 3);
        Texts.tape(x, "XY");
        x.add();
        x.build();
        Check.same("3: the first stay", Texts.document(x, 0), "abcXY");
    }

    private static void add() {
        SuffixIndex x = new SuffixIndex();
        Check.refuses(x, "4: add of an empty tape", Check.ARGUMENT, () -> x.add());
        Check.same("4: first", Texts.add(x, "ab"), 0);
        Check.same("4: the tape", x.count(3), 0);
        Check.same("4: second", Texts.add(x, "ab"), 1);
        Check.same("4: documents", x.count(0), 2);
        Check.same("4: not indexed", x.count(1), 0);
        x.build();
        Texts.seek(x, "b");
        Texts.add(x, "b");
        Check.same("4: indexed ones stay", x.count(1), 2);
        Check.same("4: what was sought stays", x.found(1), Texts.where(1, 1));
        Check.refuses(x, "4: at of one not indexed", Check.ELEMENT, () -> x.at(Texts.where(2, 0)));
    }

    private static void addLimits() {
        SuffixIndex x = new SuffixIndex();
        for (int number = 0; number < 64; number++) {
            Check.same("4: number", Texts.add(x, "q"), number);
        }
        Check.refuses(x, "4: add of an empty tape to 64", Check.ARGUMENT, () -> x.add());
        Texts.tape(x, "r");
        Check.refuses(x, "4: add of a 65th", Check.STATE, () -> x.add());
        Check.same("4: clear", x.clear(), 64);
        Check.same("4: the tape that was refused", x.add(), 0);
        x.build();
        Check.same("4: it is", Texts.document(x, 0), "r");
        tooManyBytes();
    }

    /** More calls than an object is promised to stand; the limit can't be reached with less. */
    private static void tooManyBytes() {
        SuffixIndex x = new SuffixIndex();
        Texts.add(x, Texts.times("a", 16000));
        Texts.add(x, Texts.times("b", 380));
        Texts.tape(x, "12345");
        Check.refuses(x, "4: add of 5 with room for 4", Check.STATE, () -> x.add());
        x.end(4);
        Check.same("4: add of 4 with room for 4", x.add(), 2);
        Texts.tape(x, "c");
        Check.refuses(x, "4: add of 1 without room", Check.STATE, () -> x.add());
        Check.same("4: all bytes", x.build(), 16384);
        Check.same("4: the last document", Texts.document(x, 2), "1234");
    }

    private static void build() {
        SuffixIndex x = new SuffixIndex();
        Check.same("5: build of nothing", x.build(), 0);
        Texts.add(x, "abc");
        Check.same("5: build of one", x.build(), 3);
        x.piece(4);
        Texts.seek(x, "b");
        Texts.add(x, "bb");
        Check.same("5: questions before the next build", x.pieces(), 6);
        Check.refuses(x, "5: single before the next build", Check.ELEMENT, () -> x.single(1));
        Texts.tape(x, "tape");
        Check.same("5: build of two", x.build(), 5);
        Check.same("5: the tape stays", x.count(3), 4);
        Check.same("5: out stays", State.out(x), "bc");
        Check.same("5: nothing was sought", x.count(5), 0);
        Check.refuses(x, "5: found", Check.ELEMENT, () -> x.found(0));
        Check.refuses(x, "5: most", Check.ELEMENT, () -> x.most(0));
        Check.refuses(x, "5: near", Check.STATE, () -> x.near(0));
        Check.refuses(x, "5: matched", Check.STATE, () -> x.matched());
        x.seek();
        Check.same("5: build again without a new document", x.build(), 5);
        Check.same("5: nothing was sought then either", x.count(5), 0);
        Check.same("5: indexed", x.count(1), 2);
    }

    private static void clear() {
        SuffixIndex x = new SuffixIndex();
        Check.same("6: clear of nothing", x.clear(), 0);
        Texts.add(x, "abc");
        x.build();
        Texts.add(x, "de");
        Texts.seek(x, "bc");
        x.near(0);
        x.phrases(0);
        Texts.tape(x, "tape");
        Check.same("6: clear counts those not indexed too", x.clear(), 2);
        Check.same("6: documents", x.count(0), 0);
        Check.same("6: indexed", x.count(1), 0);
        Check.same("6: suffixes", x.count(2), 0);
        Check.same("6: the tape stays", x.count(3), 4);
        Check.same("6: out stays", State.out(x), "bc");
        Check.same("6: nothing was sought", x.count(5), 0);
        Check.same("6: pieces", x.pieces(), 0);
        Check.refuses(x, "6: at", Check.ELEMENT, () -> x.at(0));
        Check.refuses(x, "6: found", Check.ELEMENT, () -> x.found(0));
        Check.refuses(x, "6: phrases", Check.ELEMENT, () -> x.phrases(0));
        Check.same("6: numbers begin again", x.add(), 0);
        Check.same("6: build after it", x.build(), 4);
        Check.same("6: the new document", Texts.document(x, 0), "tape");
        Check.same("6: phrases are of the new one", x.phrases(0), 4);
        Check.same("6: out stayed through all this", State.out(x), "bc");
    }

    private static void seek() {
        SuffixIndex x = Texts.built("banana", "ananas");
        Check.refuses(x, "7: seek of an empty tape", Check.ARGUMENT, () -> x.seek());
        Check.same("7: ana", Texts.seek(x, "ana"), 4);
        Check.same("7: the tape", x.count(3), 0);
        Check.same("7: sought", x.count(5), 3);
        Check.refuses(x, "7: seek of an empty tape, again", Check.ARGUMENT, () -> x.seek());
        Check.same("7: across an end", Texts.seek(x, "aa"), 0);
        Check.same("7: all of one", Texts.seek(x, "banana"), 1);
        Check.same("7: more than one", Texts.seek(x, "bananas"), 0);
        Check.same("7: s", Texts.seek(x, "s"), 1);
        Check.same("7: behind all", Texts.seek(x, "\u00FF"), 0);
        Check.same("7: before all", Texts.seek(x, "\0"), 0);
        Texts.tape(x, Texts.times("a", 201));
        Check.refuses(x, "7: seek of 201 bytes", Check.ARGUMENT, () -> x.seek());
        x.end(200);
        Check.same("7: seek of 200 bytes", x.seek(), 0);
        Check.same("7: 200 sought", x.count(5), 200);
        SuffixIndex long200 = Texts.built(Texts.times("ab", 150));
        Check.same("7: 200 bytes that stand", Texts.seek(long200, Texts.times("ab", 100)), 51);
        SuffixIndex empty = new SuffixIndex();
        Texts.add(empty, "a");
        Check.same("7: nothing is indexed", Texts.seek(empty, "a"), 0);
        Check.same("7: but it was sought", empty.near(3), 0);
        SuffixIndex bytes = Texts.built("\0\0\u00FF", "\u00FF\0");
        Check.same("7: byte 0", Texts.seek(bytes, "\0"), 3);
        Check.same("7: byte 255", Texts.seek(bytes, "\u00FF"), 2);
    }

    private static void found() {
        SuffixIndex x = Texts.built("banana", "ananas", "b");
        Check.refuses(x, "8: found if nothing was sought", Check.ELEMENT, () -> x.found(0));
        Texts.seek(x, "ana");
        int[] due = {1, 3, Texts.where(1, 0), Texts.where(1, 2)};
        for (int i = 0; i < due.length; i++) {
            Check.same("8: found(" + i + ")", x.found(i), due[i]);
        }
        Check.refuses(x, "8: found(4)", Check.ELEMENT, () -> x.found(4));
        Check.refuses(x, "8: found(-1)", Check.ELEMENT, () -> x.found(-1));
        Check.refuses(x, "8: found(greatest)", Check.ELEMENT, () -> x.found(Integer.MAX_VALUE));
        Texts.seek(x, "zzz");
        Check.refuses(x, "8: found of what stands nowhere", Check.ELEMENT, () -> x.found(0));
    }

    private static void most() {
        SuffixIndex x = Texts.built("a", "bb", "aab", "aba", "b", "aaa");
        Check.refuses(x, "9: most if nothing was sought", Check.ELEMENT, () -> x.most(0));
        Texts.seek(x, "a");
        int[] due = {3 * 64 + 5, 2 * 64 + 2, 2 * 64 + 3, 64};
        for (int i = 0; i < due.length; i++) {
            Check.same("9: most(" + i + ")", x.most(i), due[i]);
        }
        Check.refuses(x, "9: most(4)", Check.ELEMENT, () -> x.most(4));
        Check.refuses(x, "9: most(-1)", Check.ELEMENT, () -> x.most(-1));
        Texts.seek(x, "bb");
        Check.same("9: most of bb", x.most(0), 64 + 1);
        Check.refuses(x, "9: most(1) of bb", Check.ELEMENT, () -> x.most(1));
        SuffixIndex many = new SuffixIndex();
        for (int i = 0; i < 64; i++) {
            Texts.add(many, i % 2 == 0 ? "x" : "xx");
        }
        many.build();
        Texts.seek(many, "x");
        for (int i = 0; i < 64; i++) {
            int want = i < 32 ? 2 * 64 + 2 * i + 1 : 64 + 2 * (i - 32);
            Check.same("9: most of 64", many.most(i), want);
        }
    }

    private static void near() {
        SuffixIndex x = Texts.built("abcdefgh", "abcxefgh", "zbcxefgz");
        Check.refuses(x, "10: near(0) if nothing was sought", Check.STATE, () -> x.near(0));
        Check.refuses(x, "10: near(4) if nothing was sought", Check.ARGUMENT, () -> x.near(4));
        Check.refuses(x, "10: near(-1) if nothing was sought", Check.ARGUMENT, () -> x.near(-1));
        Texts.seek(x, "abcdefgh");
        Check.same("10: near(3)", x.near(3), 3);
        Check.same("10: out of near(3)", State.out(x), "zbcxefgz");
        Check.same("10: near(0)", x.near(0), 1);
        Check.same("10: out of near(0)", State.out(x), "abcdefgh");
        Check.same("10: near(2)", x.near(2), 2);
        Check.same("10: out of near(2)", State.out(x), "abcxefgh");
        Check.same("10: near(1)", x.near(1), 2);
        Check.refuses(x, "10: near(4)", Check.ARGUMENT, () -> x.near(4));
        Check.refuses(x, "10: near(-1)", Check.ARGUMENT, () -> x.near(-1));
        Texts.seek(x, "qqqqqq");
        Check.same("10: near nothing", x.near(3), 0);
        Check.same("10: out stays", State.out(x), "abcxefgh");
        Texts.seek(x, "abcdefghi");
        Check.same("10: too long for all", x.near(3), 0);
    }

    private static void nearEdges() {
        SuffixIndex x = Texts.built("ab", "c", "dea");
        Texts.seek(x, "qr");
        Check.same("10: all bytes others, within documents", x.near(2), 3);
        Check.same("10: out", State.out(x), "ea");
        Check.same("10: one byte other", x.near(1), 0);
        Texts.seek(x, "a");
        Check.same("10: another sought one", x.near(0), 2);
        Check.same("10: the last where", State.out(x), "a");
        Check.same("10: any byte", x.near(1), 6);
        Texts.seek(x, "dxb");
        Check.same("10: last where of few", x.near(2), 1);
        Check.same("10: as it stands there", State.out(x), "dea");
        SuffixIndex two = Texts.built("aab", "aaa");
        Texts.seek(two, "aab");
        Check.same("10: an exact one before a changed one", two.near(1), 2);
        Check.same("10: the last where wins", State.out(two), "aaa");
        SuffixIndex back = Texts.built("aaa", "aab");
        Texts.seek(back, "aab");
        Check.same("10: a changed one before an exact one", back.near(1), 2);
        Check.same("10: the last where wins again", State.out(back), "aab");
    }

    private static void matched() {
        SuffixIndex x = Texts.built("banana", "nab");
        Check.refuses(x, "11: matched if nothing was sought", Check.STATE, () -> x.matched());
        Texts.seek(x, "ana");
        Check.same("11: ana", x.matched(), 3 + 2 + 1);
        Check.same("11: again", x.matched(), 6);
        Texts.seek(x, "anab");
        Check.same("11: anab: ana, nab, ab, b", x.matched(), 3 + 3 + 2 + 1);
        Texts.seek(x, "qbanq");
        Check.same("11: qbanq: -, ban, an, n, -", x.matched(), 6);
        Texts.seek(x, "zzz");
        Check.same("11: nothing of it", x.matched(), 0);
        SuffixIndex empty = new SuffixIndex();
        Texts.seek(empty, "a");
        Check.same("11: nothing is indexed", empty.matched(), 0);
    }

    private static void suffix() {
        SuffixIndex x = Texts.built("banana", "ana", "ana");
        int[] due = {5, Texts.where(1, 2), Texts.where(2, 2), 3, Texts.where(1, 0), Texts.where(2, 0), 1, 0,
            4, Texts.where(1, 1), Texts.where(2, 1), 2};
        for (int i = 0; i < due.length; i++) {
            Check.same("12: suffix(" + i + ")", x.suffix(i), due[i]);
        }
        Check.refuses(x, "12: suffix(12)", Check.ELEMENT, () -> x.suffix(12));
        Check.refuses(x, "12: suffix(-1)", Check.ELEMENT, () -> x.suffix(-1));
        SuffixIndex bytes = Texts.built("\u00FF\u007F\u0080\0");
        int[] signs = {3, 1, 2, 0};
        for (int i = 0; i < signs.length; i++) {
            Check.same("12: bytes have no sign: suffix(" + i + ")", bytes.suffix(i), signs[i]);
        }
        SuffixIndex ends = Texts.built("a\0", "a", "a\0\0");
        int[] zeros = {1, Texts.where(2, 2), Texts.where(2, 1), Texts.where(1, 0), 0, Texts.where(2, 0)};
        for (int i = 0; i < zeros.length; i++) {
            Check.same("12: an end is before byte 0: suffix(" + i + ")", ends.suffix(i), zeros[i]);
        }
    }

    private static void rank() {
        SuffixIndex x = Texts.built("banana", "ana", "ana");
        for (int i = 0; i < 12; i++) {
            Check.same("13: rank of suffix(" + i + ")", x.rank(x.suffix(i)), i);
        }
        Check.same("13: rank(0)", x.rank(0), 7);
        refuseWheres(x, "13: rank", where -> x.rank(where));
    }

    private static void common() {
        SuffixIndex x = Texts.built("banana", "ana", "ana");
        Check.same("14: ana and anana", x.common(Texts.where(1, 0), 1), 3);
        Check.same("14: the other way round", x.common(1, Texts.where(1, 0)), 3);
        Check.same("14: one and the same", x.common(1, 1), 5);
        Check.same("14: alike ones", x.common(Texts.where(1, 0), Texts.where(2, 0)), 3);
        Check.same("14: nothing", x.common(0, 1), 0);
        Check.same("14: in one document", x.common(1, 3), 3);
        refuseWheres(x, "14: common, first", where -> x.common(where, 0));
        refuseWheres(x, "14: common, second", where -> x.common(0, where));
    }

    private static void repeat() {
        SuffixIndex x = Texts.built("banana", "xbanay", "ba");
        repeats(x, 2, "bana");
        repeats(x, 3, "ana");
        repeats(x, 4, "a");
        repeats(x, 6, "a");
        repeats(x, 7, "");
        repeats(x, 20, "");
        for (int m : new int[] {1, 0, -2, 21, Integer.MAX_VALUE}) {
            Check.refuses(x, "15: repeat(" + m + ")", Check.ARGUMENT, () -> x.repeat(m));
        }
        repeats(Texts.built(Texts.times("a", 25)), 20, Texts.times("a", 6));
        repeats(Texts.built("cdXcdYabZab"), 2, "ab");
        SuffixIndex none = Texts.built("abc");
        none.piece(3);
        repeats(none, 2, "");
    }

    private static void repeats(SuffixIndex x, int m, String due) {
        Check.same("15: repeat(" + m + ")", x.repeat(m), due.length());
        Check.same("15: out of repeat(" + m + ")", State.out(x), due);
    }

    private static void shared() {
        SuffixIndex x = Texts.built("abcabc", "xabcy", "bcbcbc", "cde");
        shares(x, 2, "abc");
        shares(x, 3, "bc");
        shares(x, 4, "c");
        shares(x, 5, "");
        shares(x, 64, "");
        for (int m : new int[] {1, 0, -1, 65, Integer.MIN_VALUE}) {
            Check.refuses(x, "16: shared(" + m + ")", Check.ARGUMENT, () -> x.shared(m));
        }
        shares(Texts.built("cdXab", "abYcd"), 2, "ab");
        SuffixIndex many = new SuffixIndex();
        for (int i = 0; i < 64; i++) {
            Texts.add(many, i == 7 ? "qr" : "pqrs");
        }
        many.build();
        shares(many, 63, "pqrs");
        shares(many, 64, "qr");
    }

    private static void shares(SuffixIndex x, int m, String due) {
        Check.same("16: shared(" + m + ")", x.shared(m), due.length());
        Check.same("16: out of shared(" + m + ")", State.out(x), due);
    }

    private static void pieces() {
        Check.same("17: of banana", Texts.built("banana").pieces(), 15);
        Check.same("17: of alike documents", Texts.built("banana", "banana").pieces(), 15);
        Check.same("17: across no end", Texts.built("a", "b").pieces(), 2);
        Check.same("17: of one letter", Texts.built(Texts.times("a", 300)).pieces(), 300);
    }

    private static void piece() {
        SuffixIndex x = Texts.built("aba", "b", "ba");
        String[] due = {"a", "ab", "aba", "b", "ba"};
        Check.same("18: pieces", x.pieces(), due.length);
        for (int k = 0; k < due.length; k++) {
            Check.same("18: piece(" + k + ")", x.piece(k), due[k].length());
            Check.same("18: out of piece(" + k + ")", State.out(x), due[k]);
        }
        for (long k : new long[] {5, -1, 1L << 32, (1L << 32) + 2, Long.MAX_VALUE, Long.MIN_VALUE}) {
            Check.refuses(x, "18: piece(" + k + ")", Check.ELEMENT, () -> x.piece(k));
        }
        SuffixIndex empty = new SuffixIndex();
        Check.refuses(empty, "18: piece(0) of nothing", Check.ELEMENT, () -> empty.piece(0));
    }

    private static void single() {
        SuffixIndex x = Texts.built("banana", "bandana", "nana", "qxq");
        singles(x, 0, "bana");
        singles(x, 1, "d");
        singles(x, 2, "");
        singles(x, 3, "x");
        singles(Texts.built("aaaa"), 0, "aaaa");
        singles(Texts.built("ab", "ab"), 1, "");
        singles(Texts.built("zxy"), 0, "z");
        singles(Texts.built("aabb"), 0, "aa");
        for (int d : new int[] {4, -1, 64, Integer.MAX_VALUE}) {
            Check.refuses(x, "19: single(" + d + ")", Check.ELEMENT, () -> x.single(d));
        }
        Texts.add(x, "new");
        Check.refuses(x, "19: single of one not indexed", Check.ELEMENT, () -> x.single(4));
    }

    private static void singles(SuffixIndex x, int d, String due) {
        Check.same("19: single(" + d + ")", x.single(d), due.length());
        Check.same("19: out of single(" + d + ")", State.out(x), due);
    }

    private static void phrases() {
        SuffixIndex x = Texts.built("banana", "banana", "aaaaaa", "a", "abcabcabd");
        int[] due = {4, 4, 2, 1, 5};
        for (int d = 0; d < due.length; d++) {
            Check.same("20: phrases(" + d + ")", x.phrases(d), due[d]);
            Check.same("20: phrases(" + d + ") again", x.phrases(d), due[d]);
        }
        for (int d : new int[] {5, -1, 64, Integer.MIN_VALUE}) {
            Check.refuses(x, "20: phrases(" + d + ")", Check.ELEMENT, () -> x.phrases(d));
        }
        Texts.add(x, "new");
        Check.refuses(x, "20: phrases of one not indexed", Check.ELEMENT, () -> x.phrases(5));
        x.build();
        Check.same("20: phrases after a new build", x.phrases(5), 3);
    }

    private static void phrase() {
        SuffixIndex x = Texts.built("zzz", "banana", "abXabYab", "aab");
        long fresh = 65536 + 65535;
        long[] banana = {fresh, fresh, fresh, 3 * 65536 + 1};
        for (int i = 0; i < banana.length; i++) {
            Check.same("21: phrase(1, " + i + ")", x.phrase(1, i), banana[i]);
        }
        long[] greatest = {fresh, fresh, fresh, 2 * 65536, fresh, 2 * 65536 + 3};
        for (int i = 0; i < greatest.length; i++) {
            Check.same("21: phrase(2, " + i + ")", x.phrase(2, i), greatest[i]);
        }
        Check.same("21: one byte that stood before", x.phrase(3, 1), 65536);
        Check.same("21: it reaches into itself", x.phrase(0, 1), 2 * 65536);
        Check.refuses(x, "21: phrase(1, 4)", Check.ELEMENT, () -> x.phrase(1, 4));
        Check.refuses(x, "21: phrase(1, -1)", Check.ELEMENT, () -> x.phrase(1, -1));
        Check.refuses(x, "21: phrase(4, 0)", Check.ELEMENT, () -> x.phrase(4, 0));
        Check.refuses(x, "21: phrase(-1, 0)", Check.ELEMENT, () -> x.phrase(-1, 0));
    }

    private static void out() {
        SuffixIndex x = Texts.built("\u00FF\0\u0080", "\u00FF\0\u0080");
        x.repeat(2);
        Check.same("22: out(0)", x.out(0), 255);
        Check.same("22: out(1)", x.out(1), 0);
        Check.same("22: out(2)", x.out(2), 128);
        Check.refuses(x, "22: out(3)", Check.BOUNDS, () -> x.out(3));
        Check.refuses(x, "22: out(-1)", Check.BOUNDS, () -> x.out(-1));
        x.piece(0);
        Check.refuses(x, "22: out(1) of one byte", Check.BOUNDS, () -> x.out(1));
        x.repeat(20);
        Check.refuses(x, "22: out(0) of none", Check.BOUNDS, () -> x.out(0));
    }

    private static void at() {
        SuffixIndex x = Texts.built("ab", "\u00FE");
        Check.same("23: at(0)", x.at(0), 'a');
        Check.same("23: at(1)", x.at(1), 'b');
        Check.same("23: at(65536)", x.at(65536), 254);
        refuseWheres(x, "23: at", where -> x.at(where));
        Check.refuses(x, "23: at of an end", Check.ELEMENT, () -> x.at(2));
    }

    private static void count() {
        SuffixIndex x = Texts.built("banana", "ananas");
        Texts.add(x, "q");
        Texts.seek(x, "ana");
        x.repeat(2);
        Texts.tape(x, "1234567");
        int[] due = {3, 2, 12, 7, 5, 3};
        for (int what = 0; what < due.length; what++) {
            Check.same("24: count(" + what + ")", x.count(what), due[what]);
        }
        for (int what : new int[] {6, -1, 100, Integer.MIN_VALUE, Integer.MAX_VALUE}) {
            Check.same("24: count(" + what + ")", x.count(what), -1);
        }
    }

    /** A question about a WHERE. */
    private interface Question {
        long ask(int where);
    }

    /** None of these stands in fewer than 60 documents, none with 60 bytes. */
    private static void refuseWheres(SuffixIndex x, String what, Question question) {
        int lastDocument = x.count(1) - 1;
        int[] wheres = {-1, -65536, Integer.MIN_VALUE, Integer.MAX_VALUE, 60, 65535,
            Texts.where(lastDocument, 60), Texts.where(lastDocument + 1, 0), Texts.where(63, 0),
            Texts.where(64, 0), Texts.where(32767, 0)};
        for (int where : wheres) {
            Check.refuses(x, what + "(" + where + ")", Check.ELEMENT, () -> question.ask(where));
        }
    }
}
