import java.util.Arrays;

/** Books printed by hand, by the formulas of their leaves, and copies of them, by the leaves that stand in them. */
public final class LeafFormula {
    public static final int BAD = -9;

    private static final int NO_SUCH = 1;
    private static final int WRONG_TEXT = 2;
    private static final int WRONG_NUMBER = 3;
    private static final int FAULTY = 4;
    private static final int NO_ROOM = 9;

    private static final int MOST_BYTES = 120;
    private static final int MOST_PIECES = MOST_BYTES + 1;
    private static final int FEED_BYTES = 20;
    private static final int MOST_BOOKS = 8;
    private static final int MOST_COPIES = 16;
    private static final int MOST_LEAVES = 400;
    private static final int MOST_ENTRIES = 400;
    private static final int MOST_DIGITS = 3;
    private static final int MOST_LETTERS = 3;
    private static final int MOST_IN_GATHERING = 12;
    private static final int MOST_INSERTED = 4;

    private static final int PI = 0;
    private static final int CHI = 70;
    private static final int SIGNS = 71;
    private static final int SLOTS = SIGNS * MOST_IN_GATHERING;
    private static final String LETTERS = "abcdefghiklmnopqrstvxyz";

    private static final int NONE = -1;

    // Kinds of PIECES; a MARK's kind is its byte, and all of these are lower.
    private static final int END = 0;
    private static final int SIGN = 1;
    private static final int NUMBER = 2;
    private static final int NO_PIECE = 3;

    private static final int PLAIN = 0;
    private static final int REPLACED = 1;
    private static final int INSERTED = 2;

    private final Tape tape = new Tape();
    private final Reader reader = new Reader(tape);
    private final Plan draft = new Plan();
    private final Row row = new Row(MOST_ENTRIES);
    private final Collator collator = new Collator();
    private final Scribe scribe = new Scribe();
    private final Book[] books = new Book[MOST_BOOKS];
    private final Copy[] copies = new Copy[MOST_COPIES];
    private int bookCount;
    private int copyCount;
    private int latestFault;
    private int latestStatus;

    public LeafFormula() {
    }

    public int feed(int a, int b, int c, int d, int e) {
        if (!tape.hasRoom(FEED_BYTES)) {
            return refuse(NO_ROOM);
        }
        tape.addWord(a);
        tape.addWord(b);
        tape.addWord(c);
        tape.addWord(d);
        tape.addWord(e);
        return answer(tape.length);
    }

    public int end(int n) {
        if (n < 0 || n > tape.length) {
            return refuse(WRONG_NUMBER);
        }
        tape.cutTo(n);
        return answer(n);
    }

    public int book() {
        latestFault = 0;
        int refusal = reader.readsFormula() ? draftFormula() : WRONG_TEXT;
        return closeBook(refusal);
    }

    public int change(int book) {
        Book old = bookAt(book);
        if (old == null) {
            return closeBook(NO_SUCH);
        }
        latestFault = 0;
        int refusal = reader.readsChanges() ? draftChanges(old) : WRONG_TEXT;
        return closeBook(refusal);
    }

    public int copy(int book) {
        Book found = bookAt(book);
        if (found == null) {
            tape.cutTo(0);
            return refuse(NO_SUCH);
        }
        latestFault = 0;
        int refusal = reader.readsRow() ? draftRow(found) : WRONG_TEXT;
        tape.cutTo(0);
        return refusal == 0 ? keepCopy(book, found) : refuse(refusal);
    }

    public int find(int book) {
        Book found = bookAt(book);
        if (found == null) {
            tape.cutTo(0);
            return refuse(NO_SUCH);
        }
        latestFault = 0;
        boolean right = reader.readsName();
        tape.cutTo(0);
        return right ? answer(found.placeOf(reader.leaves, 0)) : refuse(WRONG_TEXT);
    }

    public int place() {
        return reader.wrongAt;
    }

    public int fault() {
        return latestFault;
    }

    public int count(int what) {
        switch (what) {
            case 0:
                return answer(bookCount);
            case 1:
                return answer(copyCount);
            case 2:
                return answer(tape.length);
            default:
                return refuse(WRONG_NUMBER);
        }
    }

    public int gatherings(int book) {
        Book found = bookAt(book);
        return found == null ? refuse(NO_SUCH) : answer(found.plan.gatheringCount);
    }

    public int gathering(int book, int g, int what) {
        Book found = bookAt(book);
        if (found == null || g < 0 || g >= found.plan.gatheringCount) {
            return refuse(NO_SUCH);
        }
        return what < 0 || what > 3 ? refuse(WRONG_NUMBER) : answer(found.aboutGathering(g, what));
    }

    public int leaves(int book) {
        Book found = bookAt(book);
        return found == null ? refuse(NO_SUCH) : answer(found.leafCount());
    }

    public int leaf(int book, int place, int what) {
        Book found = bookWithLeaf(book, place);
        if (found == null) {
            return refuse(NO_SUCH);
        }
        return what < 0 || what > 4 ? refuse(WRONG_NUMBER) : answer(found.aboutLeaf(place, what));
    }

    public int letter(int book, int k) {
        Book found = bookAt(book);
        return found == null ? refuse(NO_SUCH) : byteOf(found.written, k);
    }

    public int name(int book, int place, int k) {
        Book found = bookWithLeaf(book, place);
        return found == null ? refuse(NO_SUCH) : byteOf(scribe.nameText(found, place), k);
    }

    public int same(int one, int other) {
        Book first = bookAt(one);
        Book second = bookAt(other);
        if (first == null || second == null) {
            return refuse(NO_SUCH);
        }
        return answer(first.written.equals(second.written) ? 1 : 0);
    }

    public int sheets(int book, int format) {
        Book found = bookAt(book);
        if (found == null) {
            return refuse(NO_SUCH);
        }
        return isFormat(format) ? answer(found.sheetsAhead(found.plan.gatheringCount, format)) : refuse(WRONG_NUMBER);
    }

    public int sheet(int book, int place, int format, int what) {
        Book found = bookWithLeaf(book, place);
        if (found == null) {
            return refuse(NO_SUCH);
        }
        if (!isFormat(format) || what < 0 || what > 1) {
            return refuse(WRONG_NUMBER);
        }
        return answer(what == 0 ? found.sheetOf(place, format) : found.numberOnSheet(place, format));
    }

    public int forme(int book, int place, int side, int format) {
        Book found = bookWithLeaf(book, place);
        if (found == null) {
            return refuse(NO_SUCH);
        }
        if (!isFormat(format) || side < 0 || side > 1) {
            return refuse(WRONG_NUMBER);
        }
        return answer(found.formeOf(place, side, format));
    }

    public int state(int copy, int what) {
        Copy found = copyAt(copy);
        if (found == null) {
            return refuse(NO_SUCH);
        }
        if (what == 0) {
            return answer(found.bookNumber);
        }
        Row told = found.rowOf(what);
        return told == null ? refuse(WRONG_NUMBER) : answer(told.length);
    }

    public int entry(int copy, int i) {
        Copy found = copyAt(copy);
        return found == null ? refuse(NO_SUCH) : numberOf(found.entries, i);
    }

    public int told(int copy, int what, int k) {
        Copy found = copyAt(copy);
        if (found == null) {
            return refuse(NO_SUCH);
        }
        Row told = what < 2 ? null : found.rowOf(what);
        return told == null ? refuse(WRONG_NUMBER) : numberOf(told, k);
    }

    public int note(int copy, int k) {
        Copy found = copyAt(copy);
        return found == null ? refuse(NO_SUCH) : byteOf(found.noteText, k);
    }

    public int apart(int one, int other) {
        Copy first = copyAt(one);
        Copy second = copyAt(other);
        if (first == null || second == null) {
            return refuse(NO_SUCH);
        }
        if (first.bookNumber != second.bookNumber) {
            return refuse(FAULTY);
        }
        return answer(collator.countApart(first, second));
    }

    public int together(int one, int other) {
        Copy first = copyAt(one);
        Copy second = copyAt(other);
        if (first == null || second == null) {
            return refuse(NO_SUCH);
        }
        if (first.bookNumber != second.bookNumber) {
            return refuse(FAULTY);
        }
        collator.listTogether(first, second, row);
        return keepCopy(first.bookNumber, first.source);
    }

    public int status() {
        return latestStatus;
    }

    private int refuse(int number) {
        latestStatus = number;
        return BAD;
    }

    private int answer(int value) {
        latestStatus = 0;
        return value;
    }

    private int byteOf(String text, int k) {
        return k < 0 || k >= text.length() ? refuse(NO_SUCH) : answer(text.charAt(k));
    }

    private int numberOf(Row numbers, int k) {
        return k < 0 || k >= numbers.length ? refuse(NO_SUCH) : answer(numbers.get(k));
    }

    private Book bookAt(int number) {
        return number < 0 || number >= bookCount || number >= books.length ? null : books[number];
    }

    private Book bookWithLeaf(int number, int place) {
        Book found = bookAt(number);
        return found == null || place < 0 || place >= found.leafCount() ? null : found;
    }

    private Copy copyAt(int number) {
        return number < 0 || number >= copyCount || number >= copies.length ? null : copies[number];
    }

    private static boolean isFormat(int format) {
        return format == 2 || format == 4 || format == 8;
    }

    /** The refusal of the FORMULA that was read, 0 if the draft is a BOOK to keep, should there be room for one. */
    private int draftFormula() {
        latestFault = Faults.ofFormula(reader, draft);
        return refusalOfDraft();
    }

    private int draftChanges(Book old) {
        draft.copyFrom(old.plan);
        latestFault = Faults.ofChanges(reader.leaves, 0, reader.leaves.amount(), draft);
        return refusalOfDraft();
    }

    private int refusalOfDraft() {
        if (latestFault != 0) {
            return FAULTY;
        }
        return draft.leavesInAll() > MOST_LEAVES ? NO_ROOM : 0;
    }

    private int closeBook(int refusal) {
        tape.cutTo(0);
        if (refusal != 0) {
            return refuse(refusal);
        }
        if (bookCount >= books.length) {
            return refuse(NO_ROOM);
        }
        books[bookCount] = new Book(draft, scribe.formulaText(draft));
        return answer(bookCount++);
    }

    /** The refusal of the ROW that was read, 0 if the row is a COPY to keep, should there be room for one. */
    private int draftRow(Book book) {
        latestFault = Faults.ofRow(reader.leaves, book);
        if (latestFault != 0) {
            return FAULTY;
        }
        return book.listsEntries(reader.leaves, row) ? 0 : NO_ROOM;
    }

    private int keepCopy(int number, Book book) {
        if (copyCount >= copies.length || book == null) {
            return refuse(NO_ROOM);
        }
        Copy made = new Copy(number, book, row);
        collator.collate(made);
        made.noteText = scribe.noteText(made);
        copies[copyCount] = made;
        return answer(copyCount++);
    }

    /** A row of numbers that tests each index, so that its users need not. */
    private static final class Row {
        private final int[] numbers;
        private int length;

        Row(int room) {
            numbers = new int[Math.max(room, 0)];
        }

        boolean add(int number) {
            if (length >= numbers.length) {
                return false;
            }
            numbers[length++] = number;
            return true;
        }

        int get(int i) {
            return i < 0 || i >= length ? NONE : numbers[i];
        }

        void clear() {
            length = 0;
        }

        void copyFrom(Row other) {
            clear();
            for (int i = 0; i < other.length; i++) {
                add(other.get(i));
            }
        }
    }

    /** The bytes that were fed, and the PIECES that they make. */
    private static final class Tape {
        private final byte[] bytes = new byte[MOST_BYTES];
        private final Row kinds = new Row(MOST_PIECES);
        private final Row starts = new Row(MOST_PIECES);
        private final Row values = new Row(MOST_PIECES);
        private int length;

        boolean hasRoom(int more) {
            return length + more <= bytes.length;
        }

        void addWord(int word) {
            for (int shift = 24; shift >= 0; shift -= 8) {
                if (length < bytes.length) {
                    bytes[length++] = (byte) (word >> shift);
                }
            }
        }

        void cutTo(int n) {
            length = n;
        }

        /** The last PIECE is END, at the TAPE's length, so that a text that lacks something is WRONG there. */
        void cutIntoPieces() {
            kinds.clear();
            starts.clear();
            values.clear();
            int width = 1;
            for (int at = 0; at < length; at += Math.max(width, 1)) {
                width = widthAt(at);
                if (byteAt(at) != ' ') {
                    addPiece(at, width);
                }
            }
            kinds.add(END);
            starts.add(length);
            values.add(0);
        }

        private int widthAt(int at) {
            int first = byteAt(at);
            if (!isLetter(first) && !isDigit(first)) {
                return 1;
            }
            boolean letters = isLetter(first);
            int end = at + 1;
            while (end < length && (letters ? isLetter(byteAt(end)) : isDigit(byteAt(end)))) {
                end++;
            }
            return end - at;
        }

        private void addPiece(int at, int width) {
            int first = byteAt(at);
            int kind = isMark(first) ? first : NO_PIECE;
            int value = 0;
            if (isLetter(first)) {
                value = signOfWord(at, width);
                kind = value == NONE ? NO_PIECE : SIGN;
            } else if (isDigit(first) && width <= MOST_DIGITS) {
                value = valueOfNumber(at, width);
                kind = NUMBER;
            }
            kinds.add(kind);
            starts.add(at);
            values.add(value);
        }

        private int valueOfNumber(int at, int width) {
            int value = 0;
            for (int i = at; i < at + width; i++) {
                value = value * 10 + byteAt(i) - '0';
            }
            return value;
        }

        private int signOfWord(int at, int width) {
            int first = byteAt(at);
            int second = byteAt(at + 1);
            if (width == 2 && first == 'p' && second == 'i') {
                return PI;
            }
            if (width == 3 && first == 'c' && second == 'h' && byteAt(at + 2) == 'i') {
                return CHI;
            }
            int letter = LETTERS.indexOf((char) first);
            if (letter < 0 || width > MOST_LETTERS) {
                return NONE;
            }
            for (int i = at + 1; i < at + width; i++) {
                if (byteAt(i) != first) {
                    return NONE;
                }
            }
            return (width - 1) * LETTERS.length() + letter + 1;
        }

        private int byteAt(int i) {
            return i < 0 || i >= length || i >= bytes.length ? NONE : bytes[i] & 255;
        }

        private static boolean isLetter(int b) {
            return b >= 'a' && b <= 'z';
        }

        private static boolean isDigit(int b) {
            return b >= '0' && b <= '9';
        }

        private static boolean isMark(int b) {
            return b == '(' || b == ')' || b == ',' || b == '-' || b == '+' || b == '=';
        }
    }

    /** The GROUPS of a FORMULA, in the order of the text. */
    private static final class Groups {
        private final Row first = new Row(MOST_PIECES);
        private final Row last = new Row(MOST_PIECES);
        private final Row odd = new Row(MOST_PIECES);
        private final Row even = new Row(MOST_PIECES);
        private final Row changesEnd = new Row(MOST_PIECES);

        void clear() {
            first.clear();
            last.clear();
            odd.clear();
            even.clear();
            changesEnd.clear();
        }
    }

    /**
     * The LEAVES that a text names, in its order: those of CHANGES, or NAMES.
     * The mark of a CHANGE is its -, = or +; of a NAME it is - if a NAME and a - stand ahead of it in its ITEM, else 0.
     */
    private static final class NamedLeaves {
        private final Row mark = new Row(MOST_PIECES);
        private final Row sign = new Row(MOST_PIECES);
        private final Row number = new Row(MOST_PIECES);
        private final Row inserted = new Row(MOST_PIECES);

        void clear() {
            mark.clear();
            sign.clear();
            number.clear();
            inserted.clear();
        }

        int amount() {
            return sign.length;
        }

        boolean isJoined(int i) {
            return mark.get(i) == '-';
        }
    }

    /** Reads the TAPE as one of the texts and keeps what it told. */
    private static final class Reader {
        private final Tape tape;
        private final Groups groups = new Groups();
        private final NamedLeaves leaves = new NamedLeaves();
        private int at;
        private int taken;
        private int wrongAt = BAD;

        Reader(Tape tape) {
            this.tape = tape;
        }

        boolean readsFormula() {
            begin();
            for (int g = 0; g < MOST_PIECES; g++) {
                if (!readsGroup()) {
                    return false;
                }
                if (skips(END)) {
                    return true;
                }
            }
            return false;
        }

        boolean readsChanges() {
            begin();
            return readsChangeList() && takes(END);
        }

        boolean readsRow() {
            begin();
            for (int i = 0; i < MOST_PIECES; i++) {
                if (!readsOneName(0) || skips('-') && !readsOneName('-')) {
                    return false;
                }
                if (skips(END)) {
                    return true;
                }
            }
            return false;
        }

        boolean readsName() {
            begin();
            return readsOneName(0) && takes(END);
        }

        private void begin() {
            at = 0;
            wrongAt = BAD;
            groups.clear();
            leaves.clear();
            tape.cutIntoPieces();
        }

        private boolean takes(int kind) {
            if (tape.kinds.get(at) != kind) {
                wrongAt = tape.starts.get(at);
                return false;
            }
            taken = tape.values.get(at);
            at++;
            return true;
        }

        private boolean skips(int kind) {
            if (tape.kinds.get(at) != kind) {
                return false;
            }
            at++;
            return true;
        }

        private boolean readsGroup() {
            if (!takes(SIGN)) {
                return false;
            }
            groups.first.add(taken);
            boolean spread = skips('-');
            if (spread && !takes(SIGN)) {
                return false;
            }
            groups.last.add(spread ? taken : NONE);
            if (!takes(NUMBER)) {
                return false;
            }
            groups.odd.add(taken);
            if (spread && skips(',') && !takes(NUMBER)) {
                return false;
            }
            groups.even.add(taken);
            if (skips('(') && !(readsChangeList() && takes(')'))) {
                return false;
            }
            groups.changesEnd.add(leaves.amount());
            return true;
        }

        private boolean readsChangeList() {
            for (int c = 0; c < MOST_PIECES; c++) {
                if (!readsChange()) {
                    return false;
                }
                if (!skips(',')) {
                    return true;
                }
            }
            return false;
        }

        private boolean readsChange() {
            int mark = skips('-') ? '-' : skips('=') ? '=' : '+';
            if (!takes(SIGN)) {
                return false;
            }
            leaves.sign.add(taken);
            if (!takes(NUMBER)) {
                return false;
            }
            leaves.number.add(taken);
            if (mark == '+' && !(takes('+') && takes(NUMBER))) {
                return false;
            }
            leaves.inserted.add(mark == '+' ? taken : NONE);
            leaves.mark.add(mark);
            return true;
        }

        private boolean readsOneName(int mark) {
            if (!takes(SIGN)) {
                return false;
            }
            leaves.sign.add(taken);
            if (!takes(NUMBER)) {
                return false;
            }
            leaves.number.add(taken);
            boolean more = skips('+');
            if (more && !takes(NUMBER)) {
                return false;
            }
            leaves.inserted.add(more ? taken : NONE);
            leaves.mark.add(mark);
            return true;
        }
    }

    /** The FAULTS of right texts; those of a FORMULA and of CHANGES are found while the draft is made. */
    private static final class Faults {
        static int ofFormula(Reader reader, Plan draft) {
            draft.clear();
            int changesFrom = 0;
            for (int g = 0; g < reader.groups.first.length; g++) {
                int found = ofGroup(reader, g, changesFrom, draft);
                if (found != 0) {
                    return found;
                }
                changesFrom = reader.groups.changesEnd.get(g);
            }
            return 0;
        }

        private static int ofGroup(Reader reader, int g, int changesFrom, Plan draft) {
            int first = reader.groups.first.get(g);
            int last = reader.groups.last.get(g);
            int odd = reader.groups.odd.get(g);
            int even = reader.groups.even.get(g);
            if (last != NONE && (first == PI || last == CHI || last <= first)) {
                return 1;
            }
            if (first == CHI ? draft.sizeOf(CHI) > 0 : first <= draft.highest) {
                return 2;
            }
            if (!isSize(odd) || !isSize(even)) {
                return 3;
            }
            int end = last == NONE ? first : last;
            draft.addGroup(first, end, odd, even);
            int changesTo = reader.groups.changesEnd.get(g);
            return ofSigns(reader.leaves, changesFrom, changesTo, first, end)
                    ? ofChanges(reader.leaves, changesFrom, changesTo, draft) : 4;
        }

        private static boolean isSize(int n) {
            return n == 1 || n >= 2 && n <= MOST_IN_GATHERING && n % 2 == 0;
        }

        private static boolean ofSigns(NamedLeaves leaves, int from, int to, int first, int last) {
            for (int c = from; c < to; c++) {
                if (leaves.sign.get(c) < first || leaves.sign.get(c) > last) {
                    return false;
                }
            }
            return true;
        }

        static int ofChanges(NamedLeaves leaves, int from, int to, Plan draft) {
            for (int c = from; c < to; c++) {
                if (draft.slotOf(leaves.sign.get(c), leaves.number.get(c)) == NONE) {
                    return 4;
                }
            }
            for (int c = from; c < to; c++) {
                int inserted = leaves.inserted.get(c);
                if (leaves.mark.get(c) == '+' && (inserted < 1 || inserted > MOST_INSERTED)) {
                    return 5;
                }
            }
            for (int c = from; c < to; c++) {
                int slot = draft.slotOf(leaves.sign.get(c), leaves.number.get(c));
                if (!draft.takesChange(slot, leaves.mark.get(c), leaves.inserted.get(c))) {
                    return 6;
                }
            }
            return 0;
        }

        static int ofRow(NamedLeaves names, Book book) {
            for (int i = 0; i < names.amount(); i++) {
                int at = book.placeOf(names, i);
                if (at == NONE || names.isJoined(i) && at <= book.placeOf(names, i - 1)) {
                    return 7;
                }
            }
            return 0;
        }
    }

    /** The GATHERINGS of a BOOK and what became of their leaves; a slot is for one i of one SIGN. */
    private static final class Plan {
        private final int[] signs = new int[SIGNS];
        private final int[] sizes = new int[SIGNS];
        private final byte[] fates = new byte[SLOTS];
        private final byte[] insertions = new byte[SLOTS];
        private int gatheringCount;
        private int highest = NONE;

        void clear() {
            Arrays.fill(sizes, 0);
            Arrays.fill(fates, (byte) 0);
            Arrays.fill(insertions, (byte) 0);
            gatheringCount = 0;
            highest = NONE;
        }

        void copyFrom(Plan other) {
            System.arraycopy(other.signs, 0, signs, 0, SIGNS);
            System.arraycopy(other.sizes, 0, sizes, 0, SIGNS);
            System.arraycopy(other.fates, 0, fates, 0, SLOTS);
            System.arraycopy(other.insertions, 0, insertions, 0, SLOTS);
            gatheringCount = other.gatheringCount;
            highest = other.highest;
        }

        void addGroup(int first, int last, int odd, int even) {
            for (int sign = first; sign <= last; sign++) {
                addGathering(sign, (sign - first) % 2 == 0 ? odd : even);
            }
        }

        private void addGathering(int sign, int size) {
            if (gatheringCount >= signs.length || sign < 0 || sign >= sizes.length) {
                return;
            }
            signs[gatheringCount++] = sign;
            sizes[sign] = size;
            if (sign != CHI) {
                highest = sign;
            }
        }

        /** False if the LEAF has such a change already. */
        boolean takesChange(int slot, int mark, int inserted) {
            if (slot < 0 || slot >= SLOTS) {
                return false;
            }
            byte[] told = mark == '+' ? insertions : fates;
            if (told[slot] != 0) {
                return false;
            }
            told[slot] = (byte) (mark == '+' ? inserted : mark);
            return true;
        }

        int signOf(int g) {
            return g < 0 || g >= gatheringCount || g >= signs.length ? NONE : signs[g];
        }

        int sizeOf(int sign) {
            return sign < 0 || sign >= sizes.length ? 0 : sizes[sign];
        }

        /** NONE if the BOOK has no such SIGN, or its GATHERING no such leaf. */
        int slotOf(int sign, int number) {
            return number < 1 || number > sizeOf(sign) ? NONE : sign * MOST_IN_GATHERING + number - 1;
        }

        boolean isCut(int slot) {
            return fateOf(slot) == '-';
        }

        boolean isReplaced(int slot) {
            return fateOf(slot) == '=';
        }

        int fateOf(int slot) {
            return slot < 0 || slot >= fates.length ? 0 : fates[slot];
        }

        int insertedAt(int slot) {
            return slot < 0 || slot >= insertions.length ? 0 : insertions[slot];
        }

        int leavesInAll() {
            int sum = 0;
            for (int sign = 0; sign < SIGNS; sign++) {
                sum += sizeOf(sign);
            }
            for (int slot = 0; slot < SLOTS; slot++) {
                sum += insertedAt(slot);
            }
            return sum;
        }
    }

    /** A BOOK: its plan, and its LEAVES by their PLACES. */
    private static final class Book {
        private final Plan plan = new Plan();
        private final int[] leavesAhead = new int[SLOTS];
        private final Row gatheringOf = new Row(MOST_LEAVES);
        private final Row numberOf = new Row(MOST_LEAVES);
        private final Row kindOf = new Row(MOST_LEAVES);
        private final Row insertedOf = new Row(MOST_LEAVES);
        private final String written;

        Book(Plan source, String written) {
            this.written = written;
            plan.copyFrom(source);
            for (int g = 0; g < plan.gatheringCount; g++) {
                setOut(g);
            }
        }

        private void setOut(int g) {
            int sign = plan.signOf(g);
            for (int number = 1; number <= plan.sizeOf(sign); number++) {
                int slot = plan.slotOf(sign, number);
                if (slot >= 0 && slot < leavesAhead.length) {
                    leavesAhead[slot] = leafCount();
                }
                if (!plan.isCut(slot)) {
                    addLeaf(g, number, plan.isReplaced(slot) ? REPLACED : PLAIN, 0);
                }
                for (int k = 1; k <= plan.insertedAt(slot); k++) {
                    addLeaf(g, number, INSERTED, k);
                }
            }
        }

        private void addLeaf(int g, int number, int kind, int inserted) {
            gatheringOf.add(g);
            numberOf.add(number);
            kindOf.add(kind);
            insertedOf.add(inserted);
        }

        int leafCount() {
            return gatheringOf.length;
        }

        int aboutGathering(int g, int what) {
            int sign = plan.signOf(g);
            switch (what) {
                case 0:
                    return sign;
                case 1:
                    return plan.sizeOf(sign);
                case 2:
                    return leavesOf(sign);
                default:
                    return cutOf(sign);
            }
        }

        private int cutOf(int sign) {
            int cut = 0;
            for (int number = 1; number <= plan.sizeOf(sign); number++) {
                if (plan.isCut(plan.slotOf(sign, number))) {
                    cut++;
                }
            }
            return cut;
        }

        private int leavesOf(int sign) {
            int held = plan.sizeOf(sign) - cutOf(sign);
            for (int number = 1; number <= plan.sizeOf(sign); number++) {
                held += plan.insertedAt(plan.slotOf(sign, number));
            }
            return held;
        }

        int aboutLeaf(int place, int what) {
            switch (what) {
                case 0:
                    return gatheringOf.get(place);
                case 1:
                    return numberOf.get(place);
                case 2:
                    return kindOf.get(place);
                case 3:
                    return insertedOf.get(place);
                default:
                    return conjugateOf(place);
            }
        }

        int signAt(int place) {
            return plan.signOf(gatheringOf.get(place));
        }

        int conjugateOf(int place) {
            int sign = signAt(place);
            int number = numberOf.get(place);
            int other = plan.sizeOf(sign) + 1 - number;
            int slot = plan.slotOf(sign, other);
            if (kindOf.get(place) != PLAIN || other == number || plan.fateOf(slot) != 0) {
                return NONE;
            }
            return placeOfSlot(slot, NONE);
        }

        int placeOf(NamedLeaves names, int i) {
            return placeOfSlot(plan.slotOf(names.sign.get(i), names.number.get(i)), names.inserted.get(i));
        }

        /** The k-th INSERTED one of a slot, with NONE for k the leaf ahead of these. */
        private int placeOfSlot(int slot, int k) {
            if (slot < 0 || slot >= leavesAhead.length) {
                return NONE;
            }
            int ahead = leavesAhead[slot];
            boolean cut = plan.isCut(slot);
            if (k == NONE) {
                return cut ? NONE : ahead;
            }
            return k < 1 || k > plan.insertedAt(slot) ? NONE : ahead + k - (cut ? 1 : 0);
        }

        /** Lists what a faultless ROW names; false if these are too many. */
        boolean listsEntries(NamedLeaves names, Row entries) {
            entries.clear();
            for (int i = 0; i < names.amount(); i++) {
                int last = placeOf(names, i);
                int first = names.isJoined(i) ? placeOf(names, i - 1) + 1 : last;
                for (int place = first; place <= last; place++) {
                    if (!entries.add(place)) {
                        return false;
                    }
                }
            }
            return true;
        }

        int sheetsAhead(int g, int format) {
            int sum = 0;
            for (int i = 0; i < g; i++) {
                int size = plan.sizeOf(plan.signOf(i));
                sum += sheetInGathering((size + 1) / 2, size, format) + 1;
            }
            return sum;
        }

        int sheetOf(int place, int format) {
            if (kindOf.get(place) != PLAIN) {
                return NONE;
            }
            int size = plan.sizeOf(signAt(place));
            return sheetsAhead(gatheringOf.get(place), format) + sheetInGathering(numberOf.get(place), size, format);
        }

        int numberOnSheet(int place, int format) {
            if (kindOf.get(place) != PLAIN) {
                return NONE;
            }
            int size = plan.sizeOf(signAt(place));
            int number = numberOf.get(place);
            int on = sheetInGathering(number, size, format);
            int rank = 0;
            for (int i = 1; i <= number; i++) {
                if (sheetInGathering(i, size, format) == on) {
                    rank++;
                }
            }
            return rank;
        }

        int formeOf(int place, int side, int format) {
            int number = numberOnSheet(place, format);
            if (number == NONE) {
                return NONE;
            }
            boolean odd = number % 2 == 1;
            boolean front = side == 0;
            return odd == front ? 0 : 1;
        }

        private static int sheetInGathering(int number, int size, int format) {
            int half = format / 2;
            return half < 1 ? 0 : Math.min(number - 1, size - number) / half;
        }
    }

    /** A COPY: its ENTRIES, and what these tell of it. */
    private static final class Copy {
        private final int bookNumber;
        private final Book source;
        private final Row entries = new Row(MOST_ENTRIES);
        private final Row missing = new Row(MOST_LEAVES);
        private final Row doubled = new Row(MOST_LEAVES);
        private final Row strays = new Row(MOST_ENTRIES);
        private final Row loose = new Row(MOST_LEAVES);
        private String noteText = "";

        Copy(int bookNumber, Book source, Row row) {
            this.bookNumber = bookNumber;
            this.source = source;
            entries.copyFrom(row);
        }

        Row rowOf(int what) {
            switch (what) {
                case 1:
                    return entries;
                case 2:
                    return missing;
                case 3:
                    return doubled;
                case 4:
                    return strays;
                case 5:
                    return loose;
                default:
                    return null;
            }
        }
    }

    /** Finds out what the ENTRIES of COPIES tell, in rows that all COPIES share. */
    private static final class Collator {
        private final int[] marks = new int[MOST_LEAVES];
        private final int[] reach = new int[MOST_ENTRIES];
        private final int[] begins = new int[MOST_ENTRIES];

        void collate(Copy copy) {
            countEntries(copy.entries);
            for (int place = 0; place < copy.source.leafCount(); place++) {
                int times = markAt(place);
                int conjugate = copy.source.conjugateOf(place);
                if (times == 0) {
                    copy.missing.add(place);
                }
                if (times >= 2) {
                    copy.doubled.add(place);
                }
                if (times > 0 && conjugate != NONE && markAt(conjugate) == 0) {
                    copy.loose.add(place);
                }
            }
            listStrays(copy, measureReach(copy.entries));
        }

        int countApart(Copy one, Copy other) {
            markBoth(one, other);
            int sum = 0;
            for (int place = 0; place < one.source.leafCount(); place++) {
                if (markAt(place) == 1 || markAt(place) == 2) {
                    sum++;
                }
            }
            return sum;
        }

        void listTogether(Copy one, Copy other, Row entries) {
            markBoth(one, other);
            entries.clear();
            for (int place = 0; place < one.source.leafCount(); place++) {
                if (markAt(place) != 0) {
                    entries.add(place);
                }
            }
        }

        private int markAt(int place) {
            return place < 0 || place >= marks.length ? 0 : marks[place];
        }

        private void countEntries(Row entries) {
            Arrays.fill(marks, 0);
            for (int e = 0; e < entries.length; e++) {
                int place = entries.get(e);
                setMark(place, markAt(place) + 1);
            }
        }

        private void markBoth(Copy one, Copy other) {
            Arrays.fill(marks, 0);
            for (int e = 0; e < one.entries.length; e++) {
                setMark(one.entries.get(e), 1);
            }
            for (int e = 0; e < other.entries.length; e++) {
                int place = other.entries.get(e);
                setMark(place, markAt(place) | 2);
            }
        }

        private void setMark(int place, int mark) {
            if (place >= 0 && place < marks.length) {
                marks[place] = mark;
            }
        }

        /**
         * Sets for each ENTRY the length of the longest rising row that begins with it, and tells the greatest.
         * begins[l] is the greatest PLACE with which a rising row of l + 1 begins: these fall, so that the
         * search may stop at the first one above.
         */
        private int measureReach(Row entries) {
            int longest = 0;
            for (int e = Math.min(entries.length, reach.length) - 1; e >= 0; e--) {
                int place = entries.get(e);
                int above = Math.min(longest, begins.length);
                while (above > 0 && begins[above - 1] <= place) {
                    above--;
                }
                if (above < begins.length) {
                    begins[above] = place;
                }
                reach[e] = above + 1;
                longest = Math.max(longest, above + 1);
            }
            return longest;
        }

        /** The first ENTRY from which the rest can still be as long is always the lesser number, so it is taken. */
        private void listStrays(Copy copy, int longest) {
            int wanted = longest;
            int before = NONE;
            for (int e = 0; e < Math.min(copy.entries.length, reach.length); e++) {
                int place = copy.entries.get(e);
                if (wanted > 0 && reach[e] == wanted && place > before) {
                    wanted--;
                    before = place;
                } else {
                    copy.strays.add(e);
                }
            }
        }
    }

    /** Writes NAMES, FORMULAS and NOTES, all in one builder, so that a run makes few. */
    private static final class Scribe {
        private final StringBuilder text = new StringBuilder();

        String nameText(Book book, int place) {
            text.setLength(0);
            writeName(book, place);
            return text.toString();
        }

        String formulaText(Plan plan) {
            text.setLength(0);
            int from = 0;
            for (int g = 0; g < plan.gatheringCount; g++) {
                if (!goesOn(plan, g)) {
                    writeGroup(plan, from, g);
                    from = g + 1;
                }
            }
            return text.toString();
        }

        String noteText(Copy copy) {
            text.setLength(0);
            writeRuns("lacks ", copy.source, copy.missing);
            writeRuns("twice ", copy.source, copy.doubled);
            writeMoved(copy);
            return text.toString();
        }

        /** Whether the GATHERING behind g stands in one GROUP with it. */
        private static boolean goesOn(Plan plan, int g) {
            int sign = plan.signOf(g);
            int behind = plan.signOf(g + 1);
            return sign > PI && behind < CHI && behind == sign + 1 && plan.sizeOf(sign) == plan.sizeOf(behind);
        }

        private void writeGroup(Plan plan, int from, int to) {
            if (from > 0) {
                text.append(' ');
            }
            writeSign(plan.signOf(from));
            if (to > from) {
                text.append('-');
                writeSign(plan.signOf(to));
            }
            text.append(plan.sizeOf(plan.signOf(to)));
            int before = text.length();
            for (int g = from; g <= to; g++) {
                writeChangesOf(plan, plan.signOf(g), before);
            }
            if (text.length() > before) {
                text.append(')');
            }
        }

        private void writeChangesOf(Plan plan, int sign, int before) {
            for (int number = 1; number <= plan.sizeOf(sign); number++) {
                int slot = plan.slotOf(sign, number);
                int fate = plan.fateOf(slot);
                int inserted = plan.insertedAt(slot);
                if (fate != 0) {
                    text.append(text.length() > before ? ',' : '(').append((char) fate);
                    writeSign(sign);
                    text.append(number);
                }
                if (inserted > 0) {
                    text.append(text.length() > before ? ',' : '(');
                    writeSign(sign);
                    text.append(number).append('+').append(inserted);
                }
            }
        }

        private void writeRuns(String head, Book book, Row places) {
            if (places.length == 0) {
                return;
            }
            writeHead(head);
            int from = 0;
            for (int i = 0; i < places.length; i++) {
                if (i + 1 < places.length && places.get(i + 1) == places.get(i) + 1) {
                    continue;
                }
                if (from > 0) {
                    text.append(", ");
                }
                writeName(book, places.get(from));
                if (i > from) {
                    text.append('-');
                    writeName(book, places.get(i));
                }
                from = i + 1;
            }
        }

        private void writeMoved(Copy copy) {
            if (copy.strays.length == 0) {
                return;
            }
            writeHead("moved ");
            for (int i = 0; i < copy.strays.length; i++) {
                if (i > 0) {
                    text.append(", ");
                }
                writeName(copy.source, copy.entries.get(copy.strays.get(i)));
            }
        }

        private void writeHead(String head) {
            if (text.length() > 0) {
                text.append("; ");
            }
            text.append(head);
        }

        private void writeName(Book book, int place) {
            writeSign(book.signAt(place));
            text.append(book.numberOf.get(place));
            int inserted = book.insertedOf.get(place);
            if (inserted > 0) {
                text.append('+').append(inserted);
            }
        }

        private void writeSign(int sign) {
            if (sign <= PI) {
                text.append("pi");
            } else if (sign >= CHI) {
                text.append("chi");
            } else {
                int letter = (sign - 1) % LETTERS.length();
                int times = (sign - 1) / LETTERS.length() + 1;
                for (int i = 0; i < times; i++) {
                    text.append(LETTERS.charAt(letter));
                }
            }
        }
    }
}
