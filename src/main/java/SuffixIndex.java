import java.util.Arrays;
import java.util.NoSuchElementException;

/** An index of documents that answers what stands where in them. */
public final class SuffixIndex {
    private static final int MOST_BYTES = 16384;
    private static final int MOST_DOCUMENTS = 64;
    private static final int MOST_TEXT = MOST_BYTES + MOST_DOCUMENTS;
    private static final int MOST_SOUGHT = 200;
    private static final int MOST_CHANGED = 3;
    private static final int MOST_WHERES = 20;
    private static final int BYTES_OF_A_FEED = 20;
    private static final int BYTE_VALUES = 256;
    private static final int WHERE_STEP = 65536;
    private static final long NO_EARLIER_PLACE = 65535L;
    private static final int NONE = -1;

    private final ByteRow tape;
    private final ByteRow told;
    private final Library library;
    private final SuffixOrder order;
    private final Search search;
    private final Window window;
    private final PhraseBook phraseBook;

    public SuffixIndex() {
        tape = new ByteRow(MOST_BYTES);
        told = new ByteRow(MOST_BYTES);
        library = new Library();
        order = new SuffixOrder(library);
        search = new Search(library, order);
        window = new Window(library, order);
        phraseBook = new PhraseBook(library, order);
    }

    /** Promise 2. */
    public int feed(int a, int b, int c, int d, int e) throws IllegalStateException {
        if (!tape.hasRoom(BYTES_OF_A_FEED)) {
            throw new IllegalStateException("the tape has no room for 20 bytes");
        }
        tape.putFour(a);
        tape.putFour(b);
        tape.putFour(c);
        tape.putFour(d);
        tape.putFour(e);
        return tape.length;
    }

    /** Promise 3. */
    public int end(int n) throws IllegalArgumentException {
        if (n < 0 || n > tape.length) {
            throw new IllegalArgumentException("the tape has no such length");
        }
        tape.length = n;
        return n;
    }

    /** Promise 4. */
    public int add() throws IllegalArgumentException, IllegalStateException {
        if (tape.length == 0) {
            throw new IllegalArgumentException("the tape is empty");
        }
        if (!library.hasRoom(tape.length)) {
            throw new IllegalStateException("too many documents or bytes");
        }
        int number = library.append(tape);
        tape.length = 0;
        return number;
    }

    /** Promise 5. */
    public int build() {
        // Documents only come to the others, so the same number means the same ones.
        if (library.indexed != library.documents) {
            library.indexed = library.documents;
            renew();
        }
        search.forget();
        return library.suffixes();
    }

    /** Promise 6. */
    public int clear() {
        int documents = library.documents;
        library.documents = 0;
        library.indexed = 0;
        renew();
        search.forget();
        return documents;
    }

    /** Promise 7. */
    public int seek() throws IllegalArgumentException {
        if (tape.length < 1 || tape.length > MOST_SOUGHT) {
            throw new IllegalArgumentException("only 1 to 200 bytes can be sought");
        }
        search.begin(tape);
        tape.length = 0;
        return search.hits;
    }

    /** Promise 8. */
    public int found(int i) throws NoSuchElementException {
        if (i < 0 || i >= search.hits) {
            throw new NoSuchElementException("it does not stand so often");
        }
        return search.wheres[i];
    }

    /** Promise 9. */
    public int most(int i) throws NoSuchElementException {
        if (i < 0 || i >= search.documentsHit) {
            throw new NoSuchElementException("it does not stand in so many documents");
        }
        return search.documentHit(i);
    }

    /** Promise 10. */
    public int near(int k) throws IllegalArgumentException, IllegalStateException {
        if (k < 0 || k > MOST_CHANGED) {
            throw new IllegalArgumentException("only 0 to 3 bytes may be others");
        }
        checkSought();
        search.learnNear();
        int last = search.nearLast[k];
        if (last != NONE) {
            told.copy(library.text, last, search.sought.length);
        }
        return search.nearHits[k];
    }

    /** Promise 11. */
    public int matched() throws IllegalStateException {
        checkSought();
        return search.matchedBytes();
    }

    /** Promise 12. */
    public int suffix(int i) throws NoSuchElementException {
        if (i < 0 || i >= library.suffixes()) {
            throw new NoSuchElementException("there are not so many suffixes");
        }
        return library.whereOf(order.sorted[order.first + i]);
    }

    /** Promise 13. */
    public int rank(int where) throws NoSuchElementException {
        return order.ranks[indexedPosition(where)] - order.first;
    }

    /** Promise 14. */
    public int common(int where, int other) throws NoSuchElementException {
        int position = indexedPosition(where);
        int otherPosition = indexedPosition(other);
        if (position == otherPosition) {
            return library.lengthFrom(position);
        }
        return library.alike(position, otherPosition, 0);
    }

    /** Promise 15. */
    public int repeat(int m) throws IllegalArgumentException {
        if (m < 2 || m > MOST_WHERES) {
            throw new IllegalArgumentException("only 2 to 20 wheres");
        }
        window.slide(m, false);
        return tell(window.bestPosition, window.bestLength);
    }

    /** Promise 16. */
    public int shared(int m) throws IllegalArgumentException {
        if (m < 2 || m > MOST_DOCUMENTS) {
            throw new IllegalArgumentException("only 2 to 64 documents");
        }
        window.slide(m, true);
        return tell(window.bestPosition, window.bestLength);
    }

    /** Promise 17. */
    public long pieces() {
        return order.differentPieces();
    }

    /** Promise 18. */
    public int piece(long k) throws NoSuchElementException {
        if (k < 0 || k >= order.differentPieces()) {
            throw new NoSuchElementException("there are not so many pieces");
        }
        int position = order.sorted[order.rankOfPiece(k)];
        return tell(position, order.lengthOfPiece(k));
    }

    /** Promise 19. */
    public int single(int d) throws NoSuchElementException {
        checkIndexed(d);
        int best = NONE;
        int bestLength = 0;
        int end = library.endOf(d);
        for (int position = library.starts[d]; position < end; position++) {
            int length = order.singleLength(position);
            if (length <= end - position && (best == NONE || length < bestLength)) {
                best = position;
                bestLength = length;
            }
        }
        return tell(best, bestLength);
    }

    /** Promise 20. */
    public int phrases(int d) throws NoSuchElementException {
        checkIndexed(d);
        return phraseBook.amountIn(d);
    }

    /** Promise 21. */
    public long phrase(int d, int i) throws NoSuchElementException {
        checkIndexed(d);
        if (i < 0 || i >= phraseBook.amountIn(d)) {
            throw new NoSuchElementException("the document has not so many phrases");
        }
        return phraseBook.answers[library.starts[d] + i];
    }

    /** Promise 22. */
    public int out(int i) throws IndexOutOfBoundsException {
        if (i < 0 || i >= told.length) {
            throw new IndexOutOfBoundsException("not so many bytes were told");
        }
        return told.bytes[i];
    }

    /** Promise 23. */
    public int at(int where) throws NoSuchElementException {
        return library.text[indexedPosition(where)];
    }

    /** Promise 24. */
    public int count(int what) {
        switch (what) {
            case 0:
                return library.documents;
            case 1:
                return library.indexed;
            case 2:
                return library.suffixes();
            case 3:
                return tape.length;
            case 4:
                return told.length;
            case 5:
                return search.sought.length;
            default:
                return -1;
        }
    }

    private void renew() {
        order.renew();
        phraseBook.forget();
    }

    private int tell(int position, int length) {
        if (length == 0) {
            told.length = 0;
        } else {
            told.copy(library.text, position, length);
        }
        return length;
    }

    private void checkSought() {
        if (search.sought.length == 0) {
            throw new IllegalStateException("nothing was sought");
        }
    }

    private void checkIndexed(int d) {
        if (d < 0 || d >= library.indexed) {
            throw new NoSuchElementException("the document is not indexed");
        }
    }

    private int indexedPosition(int where) {
        int position = library.positionOf(where);
        if (position == NONE) {
            throw new NoSuchElementException("there is no such where");
        }
        return position;
    }

    /** Bytes one behind the other, up to a limit. */
    private static final class ByteRow {
        final int[] bytes;
        int length;

        ByteRow(int limit) {
            bytes = new int[limit];
        }

        boolean hasRoom(int more) {
            return more <= bytes.length - length;
        }

        void putFour(int number) {
            if (!hasRoom(4)) {
                return;
            }
            for (int shift = 24; shift >= 0; shift -= 8) {
                bytes[length] = (number >>> shift) & 255;
                length++;
            }
        }

        void copy(int[] from, int start, int amount) {
            System.arraycopy(from, start, bytes, 0, amount);
            length = amount;
        }
    }

    /**
     * All documents in one text. Behind each document stands an end mark below 0, a higher one for
     * a higher document: so a comparison of two suffixes as plain numbers stops in time by itself,
     * puts the shorter one first, and alike ones by their documents' numbers.
     */
    private static final class Library {
        final int[] text = new int[MOST_TEXT];
        final int[] owners = new int[MOST_TEXT];
        final int[] starts = new int[MOST_DOCUMENTS + 1];
        int documents;
        int indexed;

        boolean hasRoom(int bytes) {
            int held = starts[documents] - documents;
            return documents < MOST_DOCUMENTS && bytes <= MOST_BYTES - held;
        }

        int append(ByteRow row) {
            int number = documents;
            int start = starts[number];
            int end = start + row.length;
            System.arraycopy(row.bytes, 0, text, start, row.length);
            text[end] = number - MOST_DOCUMENTS;
            Arrays.fill(owners, start, end + 1, number);
            starts[number + 1] = end + 1;
            documents++;
            return number;
        }

        int indexedText() {
            return starts[indexed];
        }

        int suffixes() {
            return starts[indexed] - indexed;
        }

        /** The position of the document's end mark. */
        int endOf(int document) {
            return starts[document + 1] - 1;
        }

        int lengthFrom(int position) {
            return endOf(owners[position]) - position;
        }

        int whereOf(int position) {
            int document = owners[position];
            return document * WHERE_STEP + position - starts[document];
        }

        int positionOf(int where) {
            if (where < 0) {
                return NONE;
            }
            int document = where / WHERE_STEP;
            int place = where % WHERE_STEP;
            if (document >= indexed || place >= endOf(document) - starts[document]) {
                return NONE;
            }
            return starts[document] + place;
        }

        /** How long two different suffixes are alike, if so much of it is known already. */
        int alike(int position, int other, int known) {
            int most = indexedText() - Math.max(position, other);
            int length = known;
            while (length < most && text[position + length] == text[other + length]) {
                length++;
            }
            return length;
        }
    }

    /** Sorts all positions of a text by what stands from there on, twice as much of it each time. */
    private static final class Sorter {
        private final int[] byTail = new int[MOST_TEXT];
        private final int[] newRanks = new int[MOST_TEXT];
        private final int[] tally = new int[MOST_TEXT];
        private int size;

        /** No two positions of the text may stay alike to its end: the end marks see to that. */
        void sort(int[] text, int length, int[] sorted, int[] ranks) {
            size = length;
            for (int i = 0; i < size; i++) {
                ranks[i] = text[i] + MOST_DOCUMENTS;
                byTail[i] = i;
            }
            sortByRanks(MOST_DOCUMENTS + BYTE_VALUES, sorted, ranks);
            int classes = rankAnew(0, sorted, ranks);
            for (int step = 1; step < size && classes < size; step *= 2) {
                sortByTails(step, sorted);
                sortByRanks(classes, sorted, ranks);
                classes = rankAnew(step, sorted, ranks);
            }
        }

        /** The tail of a position begins a step behind it, and those are sorted already. */
        private void sortByTails(int step, int[] sorted) {
            int filled = 0;
            for (int position = size - step; position < size; position++) {
                byTail[filled] = position;
                filled++;
            }
            for (int i = 0; i < size; i++) {
                if (sorted[i] >= step) {
                    byTail[filled] = sorted[i] - step;
                    filled++;
                }
            }
        }

        /** Leaves positions of the same rank in the order of their tails. */
        private void sortByRanks(int classes, int[] sorted, int[] ranks) {
            Arrays.fill(tally, 0, classes, 0);
            for (int i = 0; i < size; i++) {
                tally[ranks[i]]++;
            }
            for (int i = 1; i < classes; i++) {
                tally[i] += tally[i - 1];
            }
            for (int i = size - 1; i >= 0; i--) {
                int position = byTail[i];
                int slot = tally[ranks[position]] - 1;
                tally[ranks[position]] = slot;
                sorted[slot] = position;
            }
        }

        private int rankAnew(int step, int[] sorted, int[] ranks) {
            int rank = 0;
            for (int i = 0; i < size; i++) {
                if (i > 0 && !sameRanks(sorted[i - 1], sorted[i], step, ranks)) {
                    rank++;
                }
                newRanks[sorted[i]] = rank;
            }
            System.arraycopy(newRanks, 0, ranks, 0, size);
            return rank + 1;
        }

        private boolean sameRanks(int position, int other, int step, int[] ranks) {
            if (ranks[position] != ranks[other]) {
                return false;
            }
            int tail = position + step;
            int otherTail = other + step;
            return tail < size && otherTail < size && ranks[tail] == ranks[otherTail];
        }
    }

    /** The positions of the indexed text in ORDER; the documents' end marks stand before all suffixes. */
    private static final class SuffixOrder {
        final int[] sorted = new int[MOST_TEXT];
        final int[] ranks = new int[MOST_TEXT];
        /** How long the suffix of a rank is alike with the one before it. */
        final int[] alikeBefore = new int[MOST_TEXT];
        /** How many different pieces the suffixes up to a rank begin with. */
        private final long[] piecesUpTo = new long[MOST_TEXT];
        private final Sorter sorter = new Sorter();
        private final Library library;
        int first;
        int size;
        /** What the latest locate answered. */
        int locatedRank;
        int locatedLength;

        SuffixOrder(Library library) {
            this.library = library;
        }

        void renew() {
            first = library.indexed;
            size = library.indexedText();
            if (size > 0) {
                sorter.sort(library.text, size, sorted, ranks);
                measureAlike();
                sumPieces();
            }
        }

        /** In the text's order: without its first byte a suffix is alike with another one byte less. */
        private void measureAlike() {
            int known = 0;
            for (int position = 0; position < size; position++) {
                int rank = ranks[position];
                known = rank == 0 ? 0 : library.alike(position, sorted[rank - 1], known);
                alikeBefore[rank] = known;
                known = known > 0 ? known - 1 : 0;
            }
        }

        private void sumPieces() {
            long sum = 0;
            for (int rank = first; rank < size; rank++) {
                sum += library.lengthFrom(sorted[rank]) - alikeBefore[rank];
                piecesUpTo[rank] = sum;
            }
        }

        long differentPieces() {
            return size == 0 ? 0 : piecesUpTo[size - 1];
        }

        int rankOfPiece(long k) {
            int low = first;
            int high = size - 1;
            while (low < high) {
                int middle = (low + high) >>> 1;
                if (piecesUpTo[middle] > k) {
                    high = middle;
                } else {
                    low = middle + 1;
                }
            }
            return low;
        }

        /** The last new piece of a suffix is all of it, each one before is a byte shorter. */
        int lengthOfPiece(long k) {
            int rank = rankOfPiece(k);
            long later = piecesUpTo[rank] - 1 - k;
            return (int) (library.lengthFrom(sorted[rank]) - later);
        }

        /** How long a piece from there on must be to stand nowhere else; it may not fit any more. */
        int singleLength(int position) {
            int rank = ranks[position];
            int after = rank + 1 < size ? alikeBefore[rank + 1] : 0;
            return Math.max(alikeBefore[rank], after) + 1;
        }

        /**
         * Finds the first suffix that is not before the bytes from there on, and how long they are
         * alike with any suffix. What both borders have in common with them, all between have too.
         */
        void locate(ByteRow wanted, int from) {
            int low = first;
            int high = size;
            int lowAlike = 0;
            int highAlike = 0;
            while (low < high) {
                int middle = (low + high) >>> 1;
                int position = sorted[middle];
                int length = alikeWith(wanted, from, position, Math.min(lowAlike, highAlike));
                if (isBefore(wanted, from + length, position + length)) {
                    low = middle + 1;
                    lowAlike = length;
                } else {
                    high = middle;
                    highAlike = length;
                }
            }
            locatedRank = low;
            locatedLength = Math.max(lowAlike, highAlike);
        }

        private int alikeWith(ByteRow wanted, int from, int position, int known) {
            int most = Math.min(wanted.length - from, size - position);
            int length = known;
            while (length < most && wanted.bytes[from + length] == library.text[position + length]) {
                length++;
            }
            return length;
        }

        private boolean isBefore(ByteRow wanted, int i, int position) {
            return i < wanted.length && position < size && library.text[position] < wanted.bytes[i];
        }
    }

    /** What was SOUGHT, and what is known of it. */
    private static final class Search {
        final ByteRow sought = new ByteRow(MOST_SOUGHT);
        final int[] wheres = new int[MOST_BYTES];
        int hits;
        int documentsHit;
        final int[] nearHits = new int[MOST_CHANGED + 1];
        final int[] nearLast = new int[MOST_CHANGED + 1];
        private final int[] documentKeys = new int[MOST_DOCUMENTS];
        private final Library library;
        private final SuffixOrder order;
        private boolean nearKnown;
        private int matchedSum;

        Search(Library library, SuffixOrder order) {
            this.library = library;
            this.order = order;
        }

        void forget() {
            sought.length = 0;
            hits = 0;
            documentsHit = 0;
            nearKnown = false;
            matchedSum = NONE;
        }

        void begin(ByteRow wanted) {
            forget();
            sought.copy(wanted.bytes, 0, wanted.length);
            order.locate(sought, 0);
            if (order.locatedLength == sought.length) {
                gather(order.locatedRank, lastRankFrom(order.locatedRank));
            }
        }

        private int lastRankFrom(int rank) {
            int last = rank;
            while (last + 1 < order.size && order.alikeBefore[last + 1] >= sought.length) {
                last++;
            }
            return last;
        }

        /** Goes through the text, not the ranks, as the answers rise by WHERES. */
        private void gather(int firstRank, int lastRank) {
            for (int document = 0; document < library.indexed; document++) {
                int before = hits;
                int start = library.starts[document];
                int end = library.endOf(document);
                for (int position = start; position < end; position++) {
                    int rank = order.ranks[position];
                    if (rank >= firstRank && rank <= lastRank) {
                        wheres[hits] = document * WHERE_STEP + position - start;
                        hits++;
                    }
                }
                if (hits > before) {
                    insertDocument(document, hits - before);
                }
            }
        }

        /** Of alike often hit documents the least number is first, so it counts from above. */
        private void insertDocument(int document, int often) {
            int key = often * MOST_DOCUMENTS + (MOST_DOCUMENTS - 1 - document);
            int slot = documentsHit;
            while (slot > 0 && documentKeys[slot - 1] < key) {
                documentKeys[slot] = documentKeys[slot - 1];
                slot--;
            }
            documentKeys[slot] = key;
            documentsHit++;
        }

        int documentHit(int i) {
            int often = documentKeys[i] / MOST_DOCUMENTS;
            int document = MOST_DOCUMENTS - 1 - documentKeys[i] % MOST_DOCUMENTS;
            return often * MOST_DOCUMENTS + document;
        }

        /** One pass answers for every number of changed bytes. */
        void learnNear() {
            if (nearKnown) {
                return;
            }
            nearKnown = true;
            Arrays.fill(nearHits, 0);
            Arrays.fill(nearLast, NONE);
            for (int document = 0; document < library.indexed; document++) {
                int last = library.endOf(document) - sought.length;
                for (int position = library.starts[document]; position <= last; position++) {
                    noteNear(position, changedAt(position));
                }
            }
            for (int k = 1; k <= MOST_CHANGED; k++) {
                nearHits[k] += nearHits[k - 1];
                nearLast[k] = Math.max(nearLast[k], nearLast[k - 1]);
            }
        }

        private void noteNear(int position, int changed) {
            if (changed <= MOST_CHANGED) {
                nearHits[changed]++;
                nearLast[changed] = position;
            }
        }

        /** Stops counting at one more than may ever be changed. */
        private int changedAt(int position) {
            int changed = 0;
            for (int i = 0; i < sought.length && changed <= MOST_CHANGED; i++) {
                if (library.text[position + i] != sought.bytes[i]) {
                    changed++;
                }
            }
            return changed;
        }

        int matchedBytes() {
            if (matchedSum == NONE) {
                matchedSum = 0;
                for (int i = 0; i < sought.length; i++) {
                    order.locate(sought, i);
                    matchedSum += order.locatedLength;
                }
            }
            return matchedSum;
        }
    }

    /** Slides over the suffixes in ORDER: a piece that stands often begins some that are neighbours. */
    private static final class Window {
        int bestPosition;
        int bestLength;
        private final Library library;
        private final SuffixOrder order;
        private final int[] inside = new int[MOST_DOCUMENTS];
        /** Ranks in the window whose alikeBefore is less than all later ones: the first has the least. */
        private final int[] least = new int[MOST_TEXT];
        private int leastFrom;
        private int leastTo;

        Window(Library library, SuffixOrder order) {
            this.library = library;
            this.order = order;
        }

        /** Finds the longest beginning of m neighbours, or of neighbours from m documents. */
        void slide(int m, boolean byDocument) {
            bestPosition = NONE;
            bestLength = 0;
            leastFrom = 0;
            leastTo = 0;
            Arrays.fill(inside, 0);
            int held = 0;
            int left = order.first;
            for (int right = order.first; right < order.size; right++) {
                pushLeast(right);
                held += enter(right, byDocument);
                while (held >= m && left < right) {
                    keepBetter(left);
                    held -= leave(left, byDocument);
                    left++;
                }
            }
        }

        private int enter(int rank, boolean byDocument) {
            if (!byDocument) {
                return 1;
            }
            int document = library.owners[order.sorted[rank]];
            inside[document]++;
            return inside[document] == 1 ? 1 : 0;
        }

        private int leave(int rank, boolean byDocument) {
            if (!byDocument) {
                return 1;
            }
            int document = library.owners[order.sorted[rank]];
            inside[document]--;
            return inside[document] == 0 ? 1 : 0;
        }

        private void pushLeast(int rank) {
            int alike = order.alikeBefore[rank];
            while (leastTo > leastFrom && order.alikeBefore[least[leastTo - 1]] >= alike) {
                leastTo--;
            }
            least[leastTo] = rank;
            leastTo++;
        }

        /** What the leftmost suffix has in common with the one before it lies outside the window. */
        private void keepBetter(int left) {
            while (leastFrom < leastTo && least[leastFrom] <= left) {
                leastFrom++;
            }
            int length = leastFrom < leastTo ? order.alikeBefore[least[leastFrom]] : 0;
            if (length > bestLength) {
                bestLength = length;
                bestPosition = order.sorted[left];
            }
        }
    }

    /** The PHRASES of the indexed documents, each document cut when it is first asked for. */
    private static final class PhraseBook {
        /** The answers for a document begin where it begins in the text. */
        final long[] answers = new long[MOST_TEXT];
        private final int[] amounts = new int[MOST_DOCUMENTS];
        private final Library library;
        private final SuffixOrder order;
        private int earlierLength;
        private int earlierPosition;

        PhraseBook(Library library, SuffixOrder order) {
            this.library = library;
            this.order = order;
        }

        void forget() {
            Arrays.fill(amounts, 0);
        }

        /** A document has a byte, and so a phrase: none means that it is not cut yet. */
        int amountIn(int document) {
            if (amounts[document] == 0) {
                cutDocument(document);
            }
            return amounts[document];
        }

        private void cutDocument(int document) {
            int start = library.starts[document];
            int end = library.endOf(document);
            int amount = 0;
            int position = start;
            while (position < end) {
                findEarlier(start, position);
                answers[start + amount] = answerFor(start);
                position += Math.max(earlierLength, 1);
                amount++;
            }
            amounts[document] = amount;
        }

        private long answerFor(int start) {
            if (earlierLength == 0) {
                return WHERE_STEP + NO_EARLIER_PLACE;
            }
            return (long) earlierLength * WHERE_STEP + (earlierPosition - start);
        }

        private void findEarlier(int start, int position) {
            earlierLength = 0;
            earlierPosition = NONE;
            walkFrom(position, -1, start);
            walkFrom(position, 1, start);
        }

        /** The further away in ORDER, the less is alike: the walk ends where it is too little. */
        private void walkFrom(int position, int step, int start) {
            int alike = MOST_BYTES;
            for (int i = order.ranks[position] + step; i >= order.first && i < order.size; i += step) {
                int laterOfTwo = Math.max(i, i - step);
                alike = Math.min(alike, order.alikeBefore[laterOfTwo]);
                if (isTooShort(alike)) {
                    break;
                }
                keepEarlier(order.sorted[i], alike, start, position);
            }
        }

        private boolean isTooShort(int alike) {
            return alike == 0 || alike < earlierLength;
        }

        private void keepEarlier(int candidate, int alike, int start, int position) {
            if (candidate < start || candidate >= position) {
                return;
            }
            if (alike > earlierLength || candidate > earlierPosition) {
                earlierLength = alike;
                earlierPosition = candidate;
            }
        }
    }
}
