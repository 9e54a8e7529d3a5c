/** What can be seen of an object without changing it, as a text. */
final class State {
    private State() {
    }

    static String of(SuffixIndex index) {
        StringBuilder text = new StringBuilder();
        for (int what = 0; what <= 5; what++) {
            text.append(index.count(what)).append(' ');
        }
        text.append("out ").append(out(index)).append(" found");
        for (int i = 0; i < 40; i++) {
            int at = i;
            text.append(' ').append(orNone(() -> index.found(at)));
        }
        text.append(" most");
        for (int i = 0; i < 5; i++) {
            int at = i;
            text.append(' ').append(orNone(() -> index.most(at)));
        }
        text.append(" suffix");
        for (int i = 0; i < Math.min(100, index.count(2)); i++) {
            int where = index.suffix(i);
            text.append(' ').append(where).append('=').append(index.at(where));
        }
        return text.toString();
    }

    static String out(SuffixIndex index) {
        StringBuilder text = new StringBuilder();
        for (int i = 0; i < index.count(4); i++) {
            text.append((char) index.out(i));
        }
        return text.toString();
    }

    private static String orNone(Check.Call call) {
        try {
            return Long.toString(call.make());
        } catch (java.util.NoSuchElementException none) {
            return "-";
        }
    }
}
