import java.util.NoSuchElementException;

/**
 * A translator of business messages that consist of segments, as in EDIFACT: it reads a message from
 * text, checks it against a schema with loops, maps its segments by rules, and writes the result.
 */
public final class Segmentry {
    private static final char FIRST_LETTER = ' ';
    private static final char LAST_LETTER = '~';
    private static final char SEGMENT_END = '\'';
    private static final char SEPARATOR = '+';
    private static final char RELEASE = '?';
    private static final char HEADER = 'H';
    private static final char TRAILER = 'T';
    private static final char NO_TAG = ' ';

    private static final int MOST_LETTERS = 300;
    private static final int MOST_SEGMENTS = 20;
    private static final int MOST_ELEMENTS = 5;
    private static final int MOST_CONTENT = 8;
    private static final int MOST_DIGITS = 4;
    private static final int MOST_ITEMS = 10;
    // Ten items may stand in ten loops, and behind them one more loop may be open.
    private static final int MOST_ENTRIES = MOST_ITEMS + 1;
    private static final int MOST_TIMES = 9;
    private static final int MOST_RULES = 10;
    private static final int MOST_FIELDS = 5;
    private static final int MOST_MESSAGES = 9999;
    // A segment can have a bad tag, each element too long and one too many; one fault can stand behind all.
    private static final int MOST_FAULTS = MOST_SEGMENTS * (MOST_ELEMENTS + 2) + 1;

    private static final int UNFINISHED = 1;
    private static final int BAD_TAG = 2;
    private static final int TOO_MANY_ELEMENTS = 3;
    private static final int TOO_LONG = 4;
    private static final int TOO_MANY_SEGMENTS = 5;
    private static final int NO_HEADER = 6;
    private static final int NO_TRAILER = 7;
    private static final int WRONG_COUNT = 8;
    private static final int WRONG_CONTROL = 9;
    private static final int OUT_OF_SEQUENCE = 10;
    private static final int UNEXPECTED = 11;
    private static final int MISSING = 12;

    private final Schema schema;
    private final Sheet text;
    private final Faults faults;
    private final Reader reader;
    private final RuleBook rules;
    private Message accepted;
    private Message draft;
    private boolean hasMessage;
    private boolean wasAccepted;
    private int lastControl;
    private Sheet output;
    private Sheet outputDraft;
    private int messagesWritten;

    public Segmentry() {
        schema = new Schema();
        text = new Sheet();
        faults = new Faults();
        reader = new Reader(schema, faults);
        rules = new RuleBook();
        accepted = new Message();
        draft = new Message();
        output = new Sheet();
        outputDraft = new Sheet();
    }

    // ---- the schema

    public int addItem(char tag, int least, int most) throws IllegalArgumentException, IllegalStateException {
        if (!isBodyTag(tag) || !areTimes(least, most)) {
            throw new IllegalArgumentException("tag, least or most is not as told");
        }
        if (schema.itemCount() >= MOST_ITEMS) {
            throw new IllegalStateException("there are 10 items");
        }
        return schema.appendItem(tag, least, most);
    }

    public void openLoop(int least, int most) throws IllegalArgumentException, IllegalStateException {
        if (!areTimes(least, most)) {
            throw new IllegalArgumentException("least or most is not as told");
        }
        if (schema.isLoopOpen()) {
            throw new IllegalStateException("a loop is open");
        }
        schema.beginLoop(least, most);
    }

    public int closeLoop() throws IllegalStateException {
        if (!schema.isLoopOpen() || schema.openLoopSize() == 0) {
            throw new IllegalStateException("no loop is open, or it has no items");
        }
        return schema.endLoop();
    }

    public void clear() {
        schema.wipe();
        rules.wipe();
        hasMessage = false;
    }

    public int items() {
        return schema.itemCount();
    }

    // ---- text

    public int feed(char letter) throws IllegalArgumentException, IllegalStateException {
        if (!isLetter(letter)) {
            throw new IllegalArgumentException("the letter is not from 32 to 126");
        }
        if (text.count() >= MOST_LETTERS) {
            throw new IllegalStateException("the text has 300 letters");
        }
        text.put(letter);
        return text.count();
    }

    public int discard() {
        int had = text.count();
        text.wipe();
        return had;
    }

    public int length() {
        return text.count();
    }

    public int read() throws IllegalStateException {
        if (schema.isLoopOpen()) {
            throw new IllegalStateException("a loop is open");
        }
        if (reader.accepts(text, draft, wasAccepted, lastControl)) {
            acceptDraft();
        }
        text.wipe();
        return faults.count();
    }

    public int faultKind(int fault) throws IndexOutOfBoundsException {
        needFault(fault);
        return faults.kindOf(fault);
    }

    public int faultPlace(int fault) throws IndexOutOfBoundsException {
        needFault(fault);
        return faults.placeOf(fault);
    }

    // ---- the accepted message

    public int control() throws NoSuchElementException {
        if (!wasAccepted) {
            throw new NoSuchElementException("no message was accepted yet");
        }
        return lastControl;
    }

    public int segments() throws IllegalStateException {
        needMessage();
        return accepted.bodyCount();
    }

    public char tag(int segment) throws IllegalStateException, IndexOutOfBoundsException {
        needSegment(segment);
        return accepted.bodyAt(segment).mark();
    }

    public int elements(int segment) throws IllegalStateException, IndexOutOfBoundsException {
        needSegment(segment);
        return accepted.bodyAt(segment).elementCount();
    }

    public int contentLength(int segment, int element) throws IllegalStateException, IndexOutOfBoundsException {
        needElement(segment, element);
        return accepted.bodyAt(segment).countIn(element);
    }

    public char content(int segment, int element, int index)
            throws IllegalStateException, IndexOutOfBoundsException {
        needElement(segment, element);
        if (index < 0 || index >= accepted.bodyAt(segment).countIn(element)) {
            throw new IndexOutOfBoundsException("no such letter");
        }
        return accepted.bodyAt(segment).letterIn(element, index);
    }

    public int item(int segment) throws IllegalStateException, IndexOutOfBoundsException {
        needSegment(segment);
        return accepted.bodyAt(segment).itemNumber();
    }

    public int pass(int segment) throws IllegalStateException, IndexOutOfBoundsException {
        needSegment(segment);
        return accepted.bodyAt(segment).passNumber();
    }

    // ---- rules and writing

    public int addRule(int item, char tag)
            throws IndexOutOfBoundsException, IllegalArgumentException, IllegalStateException {
        if (item < 0 || item >= schema.itemCount()) {
            throw new IndexOutOfBoundsException("no such item");
        }
        if (!isBodyTag(tag)) {
            throw new IllegalArgumentException("tag is not as told");
        }
        if (rules.count() >= MOST_RULES) {
            throw new IllegalStateException("there are 10 rules");
        }
        return rules.append(item, tag);
    }

    public int addField(int rule, int element)
            throws IndexOutOfBoundsException, IllegalArgumentException, IllegalStateException {
        needRule(rule);
        if (element < 0 || element >= MOST_ELEMENTS) {
            throw new IllegalArgumentException("element is out of range");
        }
        if (rules.at(rule).fieldCount() >= MOST_FIELDS) {
            throw new IllegalStateException("the rule has 5 fields");
        }
        return rules.at(rule).appendField(element);
    }

    public void setCondition(int rule, int element, char letter)
            throws IndexOutOfBoundsException, IllegalArgumentException {
        needRule(rule);
        if (element < 0 || element >= MOST_ELEMENTS || !isLetter(letter)) {
            throw new IllegalArgumentException("element or letter is out of range");
        }
        rules.at(rule).restrict(element, letter);
    }

    public int write() throws IllegalStateException {
        needMessage();
        if (messagesWritten >= MOST_MESSAGES) {
            throw new IllegalStateException("9999 messages were written");
        }
        if (!rules.translate(accepted, messagesWritten + 1, outputDraft)) {
            throw new IllegalStateException("the message would have too many segments or letters");
        }
        messagesWritten++;
        Sheet former = output;
        output = outputDraft;
        outputDraft = former;
        return output.count();
    }

    public int written() {
        return output.count();
    }

    public char letter(int index) throws IndexOutOfBoundsException {
        if (index < 0 || index >= output.count()) {
            throw new IndexOutOfBoundsException("no such letter");
        }
        return output.at(index);
    }

    public int feedWritten() throws IllegalStateException {
        if (text.count() + output.count() > MOST_LETTERS) {
            throw new IllegalStateException("the text would have more than 300 letters");
        }
        text.putAll(output);
        return text.count();
    }

    // ---- what the calls have in common

    private void acceptDraft() {
        Message former = accepted;
        accepted = draft;
        draft = former;
        hasMessage = true;
        wasAccepted = true;
        lastControl = accepted.headerControl();
    }

    private void needFault(int fault) {
        if (fault < 0 || fault >= faults.count()) {
            throw new IndexOutOfBoundsException("no such fault");
        }
    }

    private void needMessage() {
        if (!hasMessage) {
            throw new IllegalStateException("there is no accepted message");
        }
    }

    private void needSegment(int segment) {
        needMessage();
        if (segment < 0 || segment >= accepted.bodyCount()) {
            throw new IndexOutOfBoundsException("no such segment");
        }
    }

    private void needElement(int segment, int element) {
        needSegment(segment);
        if (element < 0 || element >= accepted.bodyAt(segment).elementCount()) {
            throw new IndexOutOfBoundsException("no such element");
        }
    }

    private void needRule(int rule) {
        if (rule < 0 || rule >= rules.count()) {
            throw new IndexOutOfBoundsException("no such rule");
        }
    }

    private static boolean isLetter(char letter) {
        return letter >= FIRST_LETTER && letter <= LAST_LETTER;
    }

    private static boolean isTag(char letter) {
        return letter >= 'A' && letter <= 'Z';
    }

    private static boolean isBodyTag(char letter) {
        return isTag(letter) && letter != HEADER && letter != TRAILER;
    }

    private static boolean areTimes(int least, int most) {
        return least >= 0 && least <= MOST_TIMES && most >= 1 && most <= MOST_TIMES && least <= most;
    }

    /** Letters in a row, up to the length that a text may have. */
    private static final class Sheet {
        private final char[] row = new char[MOST_LETTERS];
        private int size;
        private boolean overfull;

        void wipe() {
            size = 0;
            overfull = false;
        }

        int count() {
            return size;
        }

        boolean isOverfull() {
            return overfull;
        }

        char at(int place) {
            return place >= 0 && place < size ? row[place] : NO_TAG;
        }

        void put(char letter) {
            if (size >= row.length) {
                overfull = true;
                return;
            }
            row[size] = letter;
            size++;
        }

        void putAll(Sheet other) {
            for (int place = 0; place < other.size; place++) {
                put(other.at(place));
            }
        }

        void putReleased(char letter) {
            if (letter == SEPARATOR || letter == SEGMENT_END || letter == RELEASE) {
                put(RELEASE);
            }
            put(letter);
        }

        void putNumber(int number) {
            for (int unit = 1000; unit > 0; unit /= 10) {
                if (number >= unit || unit == 1) {
                    put((char) ('0' + number / unit % 10));
                }
            }
        }
    }

    /** The faults of a reading. The checks add them in their order, so nothing sorts them. */
    private static final class Faults {
        private final int[] kinds = new int[MOST_FAULTS];
        private final int[] places = new int[MOST_FAULTS];
        private int size;

        void wipe() {
            size = 0;
        }

        int count() {
            return size;
        }

        void add(int kind, int place) {
            if (size < MOST_FAULTS) {
                kinds[size] = kind;
                places[size] = place;
                size++;
            }
        }

        int kindOf(int fault) {
            return fault >= 0 && fault < size ? kinds[fault] : 0;
        }

        int placeOf(int fault) {
            return fault >= 0 && fault < size ? places[fault] : 0;
        }
    }

    /** A segment that was read, with the contents of its elements and what it was matched with. */
    private static final class Segment {
        private final char[] letters = new char[MOST_ELEMENTS * MOST_CONTENT];
        private final int[] counts = new int[MOST_ELEMENTS];
        private int start;
        private char mark = NO_TAG;
        private int elementCount;
        private int itemNumber;
        private int passNumber;

        void begin(int place, char itsMark) {
            start = place;
            mark = itsMark;
            elementCount = 0;
        }

        void beginElement() {
            if (elementCount < MOST_ELEMENTS) {
                counts[elementCount] = 0;
                elementCount++;
            }
        }

        /** Letters that make the last element too long are counted, but not kept. */
        void append(char letter) {
            int element = elementCount - 1;
            if (element < 0) {
                return;
            }
            if (counts[element] < MOST_CONTENT) {
                letters[element * MOST_CONTENT + counts[element]] = letter;
            }
            counts[element]++;
        }

        void assign(int item, int pass) {
            itemNumber = item;
            passNumber = pass;
        }

        int start() {
            return start;
        }

        char mark() {
            return mark;
        }

        int elementCount() {
            return elementCount;
        }

        int itemNumber() {
            return itemNumber;
        }

        int passNumber() {
            return passNumber;
        }

        int countIn(int element) {
            return element >= 0 && element < elementCount ? counts[element] : 0;
        }

        char letterIn(int element, int index) {
            boolean isKept = index >= 0 && index < countIn(element) && index < MOST_CONTENT;
            return isKept ? letters[element * MOST_CONTENT + index] : NO_TAG;
        }

        /** The number that the digits of an element stand for, or -1 if they are not 1 to 4 digits. */
        int numberIn(int element) {
            int count = countIn(element);
            if (count < 1 || count > MOST_DIGITS) {
                return -1;
            }
            int number = 0;
            for (int index = 0; index < count; index++) {
                char digit = letterIn(element, index);
                if (digit < '0' || digit > '9') {
                    return -1;
                }
                number = number * 10 + (digit - '0');
            }
            return number;
        }

        boolean isEnvelope(char itsMark, int numbers) {
            if (mark != itsMark || elementCount != numbers) {
                return false;
            }
            for (int element = 0; element < numbers; element++) {
                if (numberIn(element) < 0) {
                    return false;
                }
            }
            return true;
        }
    }

    /** The segments of a message; the body are those between the first and the last one. */
    private static final class Message {
        private final Segment[] row = new Segment[MOST_SEGMENTS];
        private final Segment none = new Segment();
        private int size;

        Message() {
            for (int number = 0; number < MOST_SEGMENTS; number++) {
                row[number] = new Segment();
            }
        }

        void wipe() {
            size = 0;
        }

        int count() {
            return size;
        }

        Segment at(int number) {
            return number >= 0 && number < size ? row[number] : none;
        }

        Segment append() {
            if (size >= MOST_SEGMENTS) {
                return none;
            }
            size++;
            return row[size - 1];
        }

        Segment last() {
            return at(size - 1);
        }

        int bodyCount() {
            return size < 2 ? 0 : size - 2;
        }

        Segment bodyAt(int number) {
            return number >= 0 && number < bodyCount() ? at(number + 1) : none;
        }

        int headerControl() {
            return at(0).numberIn(0);
        }
    }

    /** An item of the schema. */
    private static final class Item {
        private char mark;
        private int least;
        private int most;

        void set(char itsMark, int itsLeast, int itsMost) {
            mark = itsMark;
            least = itsLeast;
            most = itsMost;
        }
    }

    /**
     * An entry of the schema's list. An item in no loop is kept as a loop of its own with one pass at
     * most: as a pass has at least one segment, both take the same segments.
     */
    private static final class Entry {
        private boolean isLoop;
        private int first;
        private int end;
        private int least;
        private int most;

        void begin(boolean asLoop, int firstItem, int itsLeast, int itsMost) {
            isLoop = asLoop;
            first = firstItem;
            end = firstItem;
            least = itsLeast;
            most = itsMost;
        }

        void extend() {
            end++;
        }
    }

    /** The list of entries, and their items in the order in which they were added. */
    private static final class Schema {
        private final Item[] itemRow = new Item[MOST_ITEMS];
        private final Entry[] entryRow = new Entry[MOST_ENTRIES];
        private final Item noItem = new Item();
        private final Entry noEntry = new Entry();
        private int itemCount;
        private int entryCount;
        private boolean loopOpen;

        Schema() {
            for (int number = 0; number < MOST_ITEMS; number++) {
                itemRow[number] = new Item();
            }
            for (int number = 0; number < MOST_ENTRIES; number++) {
                entryRow[number] = new Entry();
            }
        }

        void wipe() {
            itemCount = 0;
            entryCount = 0;
            loopOpen = false;
        }

        int itemCount() {
            return itemCount;
        }

        int entryCount() {
            return entryCount;
        }

        Item itemAt(int number) {
            return number >= 0 && number < itemCount ? itemRow[number] : noItem;
        }

        Entry entryAt(int number) {
            return number >= 0 && number < entryCount ? entryRow[number] : noEntry;
        }

        boolean isLoopOpen() {
            return loopOpen;
        }

        int openLoopSize() {
            Entry open = entryAt(entryCount - 1);
            return loopOpen ? open.end - open.first : 0;
        }

        int appendItem(char mark, int least, int most) {
            if (itemCount >= MOST_ITEMS) {
                return itemCount;
            }
            if (!loopOpen) {
                appendEntry(false, Math.min(least, 1), 1);
            }
            entryAt(entryCount - 1).extend();
            itemRow[itemCount].set(mark, least, most);
            itemCount++;
            return itemCount - 1;
        }

        void beginLoop(int least, int most) {
            appendEntry(true, least, most);
            loopOpen = true;
        }

        int endLoop() {
            int size = openLoopSize();
            loopOpen = false;
            return size;
        }

        private void appendEntry(boolean asLoop, int least, int most) {
            if (entryCount < MOST_ENTRIES) {
                entryRow[entryCount].begin(asLoop, itemCount, least, most);
                entryCount++;
            }
        }
    }

    /** Reads a text into a message, and checks it as far as the faults let it. */
    private static final class Reader {
        private final Faults faults;
        private final Matcher matcher;

        Reader(Schema schema, Faults itsFaults) {
            faults = itsFaults;
            matcher = new Matcher(schema);
        }

        boolean accepts(Sheet text, Message message, boolean follows, int lastControl) {
            faults.wipe();
            split(text, message);
            if (faults.count() == 0) {
                checkEnvelope(message);
            }
            if (faults.count() == 0) {
                checkNumbers(message, follows, lastControl);
            }
            if (faults.count() == 0) {
                checkBody(message);
            }
            return faults.count() == 0;
        }

        private void split(Sheet text, Message message) {
            message.wipe();
            int place = 0;
            for (int number = 0; number < MOST_SEGMENTS && place < text.count(); number++) {
                int end = segmentEnd(text, place);
                if (end >= text.count()) {
                    faults.add(UNFINISHED, place);
                    return;
                }
                takeSegment(text, place, end, message.append());
                place = end + 1;
            }
            if (place < text.count()) {
                faults.add(TOO_MANY_SEGMENTS, place);
            }
        }

        private void takeSegment(Sheet text, int start, int end, Segment segment) {
            int stop = partEnd(text, start, end);
            segment.begin(start, tagBetween(text, start, stop));
            if (!isTag(segment.mark())) {
                faults.add(BAD_TAG, start);
            }
            for (int element = 0; element < MOST_ELEMENTS && stop < end; element++) {
                int from = stop + 1;
                stop = partEnd(text, from, end);
                takeElement(text, from, stop, segment);
            }
            if (stop < end) {
                faults.add(TOO_MANY_ELEMENTS, stop + 1);
            }
        }

        private void takeElement(Sheet text, int from, int stop, Segment segment) {
            segment.beginElement();
            int place = from;
            while (place < stop) {
                if (text.at(place) == RELEASE) {
                    place++;
                }
                segment.append(text.at(place));
                place++;
            }
            if (segment.countIn(segment.elementCount() - 1) > MOST_CONTENT) {
                faults.add(TOO_LONG, from);
            }
        }

        private static char tagBetween(Sheet text, int start, int stop) {
            int place = text.at(start) == RELEASE ? start + 1 : start;
            boolean isAlone = place + 1 == stop;
            return isAlone && isTag(text.at(place)) ? text.at(place) : NO_TAG;
        }

        /** The place of the apostrophe that ends a segment; not in the text if it is unfinished. */
        private static int segmentEnd(Sheet text, int start) {
            int place = start;
            while (place < text.count() && text.at(place) != SEGMENT_END) {
                place += text.at(place) == RELEASE ? 2 : 1;
            }
            return place;
        }

        private static int partEnd(Sheet text, int start, int end) {
            int place = start;
            while (place < end && text.at(place) != SEPARATOR) {
                place += text.at(place) == RELEASE ? 2 : 1;
            }
            return place;
        }

        private void checkEnvelope(Message message) {
            if (!message.at(0).isEnvelope(HEADER, 1)) {
                faults.add(NO_HEADER, 0);
            }
            if (message.count() < 2 || !message.last().isEnvelope(TRAILER, 2)) {
                faults.add(NO_TRAILER, message.last().start());
            }
        }

        private void checkNumbers(Message message, boolean follows, int lastControl) {
            Segment trailer = message.last();
            int control = message.headerControl();
            if (follows && control != lastControl + 1) {
                faults.add(OUT_OF_SEQUENCE, 0);
            }
            if (trailer.numberIn(0) != message.count()) {
                faults.add(WRONG_COUNT, trailer.start());
            }
            if (trailer.numberIn(1) != control) {
                faults.add(WRONG_CONTROL, trailer.start());
            }
        }

        private void checkBody(Message message) {
            if (matcher.canDivide(message)) {
                matcher.divide(message);
                return;
            }
            int viable = matcher.viableCount(message);
            if (viable < message.bodyCount()) {
                faults.add(UNEXPECTED, message.bodyAt(viable).start());
            } else {
                faults.add(MISSING, message.last().start());
            }
        }
    }

    /**
     * Matches a body against the schema. A set of places in the body (0 before its first segment) is
     * kept as the bits of an int, so that all ways to divide the body are followed at once.
     */
    private static final class Matcher {
        private final Schema schema;
        // For each item: the places behind which a segment with its tag stands.
        private final int[] marked = new int[MOST_ITEMS];
        // For each entry: the places from which it and the entries behind it can match.
        private final int[] rests = new int[MOST_ENTRIES + 1];
        // For each number of passes done: the places from which the loop and what is behind it can match.
        private final int[] afters = new int[MOST_TIMES + 1];
        // For each item of a pass that has a segment: the places from which the pass can go on with the item.
        private final int[] begun = new int[MOST_ITEMS + 1];
        private int reached;

        Matcher(Schema itsSchema) {
            schema = itsSchema;
        }

        boolean canDivide(Message message) {
            findMarks(message);
            int last = schema.entryCount();
            put(rests, last, 1 << message.bodyCount());
            for (int number = last - 1; number >= 0; number--) {
                findAfters(schema.entryAt(number), at(rests, number + 1));
                put(rests, number, at(afters, 0));
            }
            return contains(at(rests, 0), 0);
        }

        /** Divides the body in the first way that matches; relies on what canDivide has found for it. */
        void divide(Message message) {
            int place = 0;
            for (int number = 0; number < schema.entryCount(); number++) {
                Entry entry = schema.entryAt(number);
                findAfters(entry, at(rests, number + 1));
                int passes = 0;
                while (passes < entry.most && contains(placesBeforePass(entry, at(afters, passes + 1)), place)) {
                    passes++;
                    place = dividePass(message, entry, passes, place);
                }
            }
        }

        /**
         * How many of the first segments could begin a body that matches. Any division that was begun
         * can be completed by more segments, so it is enough to see how far one can come. Relies on
         * what canDivide has found, too.
         */
        int viableCount(Message message) {
            reached = 1;
            int places = 1;
            for (int number = 0; number < schema.entryCount(); number++) {
                places = placesBehindEntry(schema.entryAt(number), places);
            }
            int count = 0;
            while (count < message.bodyCount() && contains(reached, count + 1)) {
                count++;
            }
            return count;
        }

        private void findMarks(Message message) {
            for (int item = 0; item < schema.itemCount(); item++) {
                int places = 0;
                for (int place = 0; place < message.bodyCount(); place++) {
                    if (message.bodyAt(place).mark() == schema.itemAt(item).mark) {
                        places |= 1 << place;
                    }
                }
                put(marked, item, places);
            }
        }

        private static int at(int[] sets, int number) {
            return number >= 0 && number < sets.length ? sets[number] : 0;
        }

        private static void put(int[] sets, int number, int places) {
            if (number >= 0 && number < sets.length) {
                sets[number] = places;
            }
        }

        private static boolean contains(int places, int place) {
            return (places >> place & 1) == 1;
        }

        private void findAfters(Entry entry, int rest) {
            put(afters, entry.most, rest);
            for (int passes = entry.most - 1; passes >= 0; passes--) {
                int another = placesBeforePass(entry, at(afters, passes + 1));
                put(afters, passes, passes >= entry.least ? another | rest : another);
            }
        }

        /** The places from which one more pass can lead to the targets; fills begun for this pass. */
        private int placesBeforePass(Entry entry, int targets) {
            // As begun is, but for a pass without a segment, which can't end.
            int fresh = 0;
            put(begun, entry.end, targets);
            for (int number = entry.end - 1; number >= entry.first; number--) {
                Item item = schema.itemAt(number);
                int behind = at(begun, number + 1);
                int some = placesBeforeItem(at(marked, number), Math.max(item.least, 1), item.most, behind);
                boolean canBeNone = item.least == 0;
                put(begun, number, canBeNone ? some | behind : some);
                fresh = canBeNone ? some | fresh : some;
            }
            return fresh;
        }

        private static int placesBeforeItem(int marks, int least, int most, int targets) {
            int found = 0;
            int places = targets;
            for (int times = 0; times <= most && places != 0; times++) {
                if (times >= least) {
                    found |= places;
                }
                places = places >> 1 & marks;
            }
            return found;
        }

        /**
         * Relies on begun as it was filled for this very pass. As the pass can have a segment, it gets one
         * where each item takes as many as it can.
         */
        private int dividePass(Message message, Entry entry, int pass, int start) {
            int place = start;
            for (int item = entry.first; item < entry.end; item++) {
                int times = greatestTimes(item, place);
                for (int number = place; number < place + times; number++) {
                    message.bodyAt(number).assign(item, entry.isLoop ? pass : 0);
                }
                place += times;
            }
            return place;
        }

        private int greatestTimes(int number, int place) {
            Item item = schema.itemAt(number);
            int behind = at(begun, number + 1);
            int greatest = 0;
            for (int times = 0; times <= item.most; times++) {
                if (times >= item.least && contains(behind, place + times)) {
                    greatest = times;
                }
                if (!contains(at(marked, number), place + times)) {
                    break;
                }
            }
            return greatest;
        }

        private int placesBehindEntry(Entry entry, int starts) {
            int found = 0;
            int places = starts;
            for (int passes = 0; passes <= entry.most; passes++) {
                if (passes >= entry.least) {
                    found |= places;
                }
                if (passes < entry.most) {
                    places = placesBehindPass(entry, places);
                }
            }
            return found;
        }

        private int placesBehindPass(Entry entry, int starts) {
            int without = starts;
            int with = 0;
            for (int number = entry.first; number < entry.end; number++) {
                Item item = schema.itemAt(number);
                int marks = at(marked, number);
                reached |= placesBehindItem(marks, 1, item.most, without | with);
                int some = placesBehindItem(marks, Math.max(item.least, 1), item.most, without | with);
                boolean canBeNone = item.least == 0;
                with = canBeNone ? some | with : some;
                without = canBeNone ? without : 0;
            }
            return with;
        }

        private static int placesBehindItem(int marks, int least, int most, int starts) {
            int found = 0;
            int places = starts;
            for (int times = 0; times <= most && places != 0; times++) {
                if (times >= least) {
                    found |= places;
                }
                places = (places & marks) << 1;
            }
            return found;
        }
    }

    /** A rule: how a segment of its item is written. */
    private static final class Rule {
        private static final int NO_ELEMENT = -1;

        private final int[] fields = new int[MOST_FIELDS];
        private int itemNumber;
        private char mark;
        private int fieldCount;
        private int testedElement;
        private char testedLetter;

        void begin(int item, char itsMark) {
            itemNumber = item;
            mark = itsMark;
            fieldCount = 0;
            testedElement = NO_ELEMENT;
        }

        int fieldCount() {
            return fieldCount;
        }

        int appendField(int element) {
            if (fieldCount < MOST_FIELDS) {
                fields[fieldCount] = element;
                fieldCount++;
            }
            return fieldCount;
        }

        void restrict(int element, char letter) {
            testedElement = element;
            testedLetter = letter;
        }

        boolean appliesTo(Segment segment) {
            return segment.itemNumber() == itemNumber && (testedElement == NO_ELEMENT || holdsFor(segment));
        }

        private boolean holdsFor(Segment segment) {
            return segment.countIn(testedElement) > 0 && segment.letterIn(testedElement, 0) == testedLetter;
        }

        void translate(Segment segment, Sheet sheet) {
            sheet.put(mark);
            for (int field = 0; field < fieldCount; field++) {
                int element = fields[field];
                sheet.put(SEPARATOR);
                for (int index = 0; index < segment.countIn(element); index++) {
                    sheet.putReleased(segment.letterIn(element, index));
                }
            }
            sheet.put(SEGMENT_END);
        }
    }

    /** The rules in their order, which make a message of an accepted one. */
    private static final class RuleBook {
        private final Rule[] row = new Rule[MOST_RULES];
        private final Rule none = new Rule();
        private int size;

        RuleBook() {
            for (int number = 0; number < MOST_RULES; number++) {
                row[number] = new Rule();
            }
        }

        void wipe() {
            size = 0;
        }

        int count() {
            return size;
        }

        Rule at(int number) {
            return number >= 0 && number < size ? row[number] : none;
        }

        int append(int item, char mark) {
            if (size >= MOST_RULES) {
                return size;
            }
            row[size].begin(item, mark);
            size++;
            return size - 1;
        }

        /** Fills the sheet with the translation, or tells that it is too great. */
        boolean translate(Message message, int control, Sheet sheet) {
            sheet.wipe();
            putHeader(control, sheet);
            int count = 2 + putBody(message, sheet);
            putTrailer(count, control, sheet);
            return count <= MOST_SEGMENTS && !sheet.isOverfull();
        }

        private static void putHeader(int control, Sheet sheet) {
            sheet.put(HEADER);
            sheet.put(SEPARATOR);
            sheet.putNumber(control);
            sheet.put(SEGMENT_END);
        }

        private int putBody(Message message, Sheet sheet) {
            int count = 0;
            for (int number = 0; number < message.bodyCount(); number++) {
                Segment segment = message.bodyAt(number);
                for (int rule = 0; rule < size; rule++) {
                    if (row[rule].appliesTo(segment)) {
                        row[rule].translate(segment, sheet);
                        count++;
                    }
                }
            }
            return count;
        }

        private static void putTrailer(int count, int control, Sheet sheet) {
            sheet.put(TRAILER);
            sheet.put(SEPARATOR);
            sheet.putNumber(count);
            sheet.put(SEPARATOR);
            sheet.putNumber(control);
            sheet.put(SEGMENT_END);
        }
    }
}
