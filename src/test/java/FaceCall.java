/** A call of the face by its name. */
final class FaceCall {
    private FaceCall() {
    }

    static long make(SuffixIndex index, String name, long[] given) {
        int a = given.length > 0 ? (int) given[0] : 0;
        switch (name) {
            case "feed": return index.feed(a, (int) given[1], (int) given[2], (int) given[3], (int) given[4]);
            case "end": return index.end(a);
            case "add": return index.add();
            case "build": return index.build();
            case "clear": return index.clear();
            case "seek": return index.seek();
            case "found": return index.found(a);
            case "most": return index.most(a);
            case "near": return index.near(a);
            case "matched": return index.matched();
            case "suffix": return index.suffix(a);
            case "rank": return index.rank(a);
            case "common": return index.common(a, (int) given[1]);
            case "repeat": return index.repeat(a);
            case "shared": return index.shared(a);
            case "pieces": return index.pieces();
            case "piece": return index.piece(given[0]);
            case "single": return index.single(a);
            case "phrases": return index.phrases(a);
            case "phrase": return index.phrase(a, (int) given[1]);
            case "out": return index.out(a);
            case "at": return index.at(a);
            case "count": return index.count(a);
            default: throw new AssertionError(name);
        }
    }
}
