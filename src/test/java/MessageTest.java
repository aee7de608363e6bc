/** Promises 13 to 20: control, segments, tag, elements, contentLength, content, item, pass. */
final class MessageTest {
    private static final int[] WILD = {-1, -2, 5, 8, 18, 20, 1000, Integer.MIN_VALUE, Integer.MAX_VALUE};

    /** A call that asks for a segment by its number. */
    private interface Asking {
        void of(Run x, int segment);
    }

    public static void main(String[] args) {
        all();
        Check.end();
    }

    static void all() {
        control();
        controlOfNone();
        segments();
        tag();
        elements();
        contentLength();
        noSuchElement();
        content();
        noSuchLetter();
        item();
        pass();
        nextMessage();
    }

    private static Run ready() {
        Run x = new Run();
        x.addItem('A', 1, 9);
        x.openLoop(0, 9);
        x.addItem('B', 0, 9);
        x.addItem('C', 1, 1);
        x.closeLoop();
        return x;
    }

    private static void control() {
        Check.says("Promise 13", "Returns the control number of the message that was accepted last, also if it is forgotten.");
        Run x = ready();
        Check.accepts(x, "H+0041'A'T+3+41'");
        Check.due("control", x.control(), 41);
        Check.due("a message with a fault", Check.read(x, "H+42'T+2+42'"), "12@5");
        Check.due("control stays", x.control(), 41);
        x.clear();
        Check.due("control after clear", x.control(), 41);
        Check.accepts(x, "H+42'T+2+42'");
        Check.due("control of the next one", x.control(), 42);
        x.write();
        x.feedWritten();
        Check.due("control after write", x.control(), 42);
        Check.says("Promise 13", "Returns the number.");
        for (int number : new int[] {0, 1, 9, 10, 999, 9999}) {
            Run y = new Run();
            Check.accepts(y, Check.message(number, ""));
            Check.due("control", y.control(), number);
        }
        Run z = new Run();
        Check.accepts(z, "H+0070'T+2+70'");
        Check.due("control with leading zeros", z.control(), 70);
    }

    private static void controlOfNone() {
        Check.says("Promise 13", "Throws `NoSuchElementException` if none was accepted yet");
        Run x = ready();
        Check.noElement("control at first", () -> x.control());
        Check.due("a message with a fault", Check.read(x, "H+1'T+2+1'"), "12@4");
        Check.noElement("control after a fault", () -> x.control());
        x.clear();
        Check.noElement("control after clear", () -> x.control());
        Check.accepts(x, "H+0'T+2+0'");
        Check.due("control of the first one", x.control(), 0);
    }

    private static void segments() {
        Check.says("Promise 14", "Returns the number of segments of the body of the accepted message.");
        Run x = ready();
        Check.accepts(x, Check.message(1, Check.body("AABCC")));
        Check.due("segments", x.segments(), 5);
        Check.says("Promise 14", "Returns their number.");
        Run empty = new Run();
        Check.accepts(empty, "H+1'T+2+1'");
        Check.due("segments of an empty body", empty.segments(), 0);
        Run full = new Run();
        full.addItem('A', 0, 9);
        full.addItem('B', 0, 9);
        Check.accepts(full, Check.message(1, "A'"));
        Check.due("segments of a body of one", full.segments(), 1);
        Check.accepts(full, Check.message(2, Check.body("AAAAAAAAABBBBBBBBB")));
        Check.due("segments of a full body", full.segments(), 18);
        Check.due("its last tag", full.tag(17), 'B');
        Check.badIndex("the tag behind it", () -> full.tag(18));
        Check.says("Promise 14", "Throws `IllegalStateException` if there is no accepted message");
        withoutMessage((y, segment) -> y.segments());
    }

    /** The call throws at first, after a message with a fault, and after clear; with a message it answers. */
    private static void withoutMessage(Asking call) {
        Run x = ready();
        Check.badState("the call at first", () -> call.of(x, 0));
        Check.due("a message with a fault", Check.read(x, Check.message(1, "A+x'B'")), "12@10");
        Check.badState("the call after it", () -> call.of(x, 0));
        Check.accepts(x, Check.message(1, "A+x'"));
        call.of(x, 0);
        x.clear();
        Check.badState("the call after clear", () -> call.of(x, 0));
        Check.accepts(x, Check.message(2, ""));
        Check.due("a message without segments", x.segments(), 0);
    }

    /** The call throws for segments that the body of two does not have; for the others it answers. */
    private static void noSuchSegment(Asking call) {
        Run x = ready();
        Check.accepts(x, Check.message(1, "A+x'A+y'"));
        call.of(x, 0);
        call.of(x, 1);
        Check.badIndex("the segment -1", () -> call.of(x, -1));
        Check.badIndex("the segment 2", () -> call.of(x, 2));
        Check.badIndex("the segment 3", () -> call.of(x, 3));
        for (int segment : WILD) {
            Check.badIndex("the segment " + segment, () -> call.of(x, segment));
        }
        Run empty = new Run();
        Check.accepts(empty, "H+1'T+2+1'");
        Check.badIndex("the segment 0 of none", () -> call.of(empty, 0));
        Check.badIndex("the segment -1 of none", () -> call.of(empty, -1));
    }

    private static void tag() {
        Check.says("Promise 15", "Returns the tag of a segment of the body.");
        Run x = ready();
        Check.accepts(x, Check.message(1, "A'?B+x'C'C+'"));
        Check.says("Promise 15", "`segment`: 0 for the first one");
        Check.due("tag 0", x.tag(0), 'A');
        Check.due("tag 3", x.tag(3), 'C');
        Check.says("Promise 15", "Returns the tag.");
        Check.due("tag 1", x.tag(1), 'B');
        Check.due("tag 2", x.tag(2), 'C');
        Check.says("Promise 15", "Throws `IllegalStateException` if there is no accepted message");
        withoutMessage((y, segment) -> y.tag(segment));
        Check.says("Promise 15", "Throws `IndexOutOfBoundsException` if there is no such segment");
        noSuchSegment((y, segment) -> y.tag(segment));
    }

    private static void elements() {
        Check.says("Promise 16", "Returns the number of elements of a segment of the body.");
        Run x = ready();
        Check.accepts(x, Check.message(1, "A'A+'A++'A+++x'C+1+2+3+4+5'"));
        Check.says("Promise 16", "`segment`: 0 for the first one");
        Check.due("elements of 0", x.elements(0), 0);
        Check.due("elements of 4", x.elements(4), 5);
        Check.says("Promise 16", "Returns their number.");
        Check.due("elements of 1", x.elements(1), 1);
        Check.due("elements of 2", x.elements(2), 2);
        Check.due("elements of 3", x.elements(3), 3);
        Check.says("Promise 16", "Throws `IllegalStateException` if there is no accepted message");
        withoutMessage((y, segment) -> y.elements(segment));
        Check.says("Promise 16", "Throws `IndexOutOfBoundsException` if there is no such segment");
        noSuchSegment((y, segment) -> y.elements(segment));
    }

    private static void contentLength() {
        Check.says("Promise 17", "Returns the length of the content of an element of a segment of the body.");
        Run x = ready();
        Check.accepts(x, Check.message(1, "A+1++333+?'?+??'A+?a?b?c?d?e?f?g?h+12345678++'"));
        Check.says("Promise 17", "`segment`: 0 for the first one");
        Check.due("length of 0, 0", x.contentLength(0, 0), 1);
        Check.due("length of 1, 0", x.contentLength(1, 0), 8);
        Check.says("Promise 17", "`element`: 0 for the first one");
        Check.due("length of 0, 2", x.contentLength(0, 2), 3);
        Check.due("length of 1, 1", x.contentLength(1, 1), 8);
        Check.says("Promise 17", "Returns the number of letters.");
        Check.due("length of an empty content", x.contentLength(0, 1), 0);
        Check.due("length of released letters", x.contentLength(0, 3), 3);
        Check.due("length of a last empty content", x.contentLength(1, 3), 0);
        Check.says("Promise 17", "Throws `IllegalStateException` if there is no accepted message");
        withoutMessage((y, segment) -> y.contentLength(segment, 0));
    }

    private static void noSuchElement() {
        Check.says("Promise 17", "Throws `IndexOutOfBoundsException` if there is no such segment or element");
        noSuchSegment((y, segment) -> y.contentLength(segment, 0));
        Run x = ready();
        Check.accepts(x, Check.message(1, "A+x+y'A'C+1+2+3+4+5'"));
        Check.due("the last element of two", x.contentLength(0, 1), 1);
        Check.badIndex("the element behind it", () -> x.contentLength(0, 2));
        Check.badIndex("the element 0 of none", () -> x.contentLength(1, 0));
        Check.due("the last element of five", x.contentLength(2, 4), 1);
        for (int element : WILD) {
            Check.badIndex("the element " + element, () -> x.contentLength(0, element));
            Check.badIndex("the element of five " + element, () -> x.contentLength(2, element));
        }
        // An element that a former message had at this place is none of this one.
        Check.accepts(x, Check.message(2, "A+z'"));
        Check.badIndex("the element of the former message", () -> x.contentLength(0, 1));
    }

    private static void content() {
        Check.says("Promise 18", "Returns a letter of the content of an element of a segment of the body.");
        Run x = ready();
        Check.accepts(x, Check.message(1, "A+abc+d+?'?+??'C+12345678'"));
        Check.says("Promise 18", "`segment`: 0 for the first one");
        Check.due("content 0, 0, 0", x.content(0, 0, 0), 'a');
        Check.due("content 1, 0, 0", x.content(1, 0, 0), '1');
        Check.says("Promise 18", "`element`: 0 for the first one");
        Check.due("content 0, 1, 0", x.content(0, 1, 0), 'd');
        Check.due("content 0, 2, 0", x.content(0, 2, 0), '\'');
        Check.says("Promise 18", "`index`: 0 for the first letter");
        Check.due("content 0, 0, 2", x.content(0, 0, 2), 'c');
        Check.due("content 1, 0, 7", x.content(1, 0, 7), '8');
        Check.says("Promise 18", "Returns the letter.");
        Check.due("content 0, 2, 1", x.content(0, 2, 1), '+');
        Check.due("content 0, 2, 2", x.content(0, 2, 2), '?');
        Check.due("content 0, 0", Check.content(x, 0, 0), "abc");
        Check.says("Promise 18", "Throws `IllegalStateException` if there is no accepted message");
        withoutMessage((y, segment) -> y.content(segment, 0, 0));
    }

    private static void noSuchLetter() {
        Check.says("Promise 18", "Throws `IndexOutOfBoundsException` if there is no such segment, element or letter");
        noSuchSegment((y, segment) -> y.content(segment, 0, 0));
        Run x = ready();
        Check.accepts(x, Check.message(1, "A+xy++12345678'A'C+1+2+3+4+5'"));
        Check.badIndex("the element 3", () -> x.content(0, 3, 0));
        Check.badIndex("the element 0 of none", () -> x.content(1, 0, 0));
        Check.badIndex("the element 5", () -> x.content(2, 5, 0));
        Check.due("the last letter of two", x.content(0, 0, 1), 'y');
        Check.badIndex("the letter behind it", () -> x.content(0, 0, 2));
        Check.badIndex("the letter 0 of none", () -> x.content(0, 1, 0));
        Check.due("the last letter of eight", x.content(0, 2, 7), '8');
        Check.badIndex("the letter behind it", () -> x.content(0, 2, 8));
        for (int number : WILD) {
            Check.badIndex("the element " + number, () -> x.content(0, number, 0));
            Check.badIndex("the letter " + number, () -> x.content(0, 0, number));
        }
        Check.accepts(x, Check.message(2, "A+z'"));
        Check.badIndex("the letter of the former message", () -> x.content(0, 0, 1));
    }

    private static void item() {
        Check.says("Promise 19", "Returns the item to which a segment of the body belongs.");
        Run x = ready();
        Check.accepts(x, Check.message(1, Check.body("AABBCCBC")));
        Check.due("items and passes", Check.division(x), "A00,A00,B11,B11,C21,C22,B13,C23");
        Check.says("Promise 19", "`segment`: 0 for the first one");
        Check.due("item 0", x.item(0), 0);
        Check.due("item 7", x.item(7), 2);
        Check.says("Promise 19", "Returns the number of the item.");
        Check.due("item 2", x.item(2), 1);
        x.addItem('D', 0, 1);
        x.addRule(0, 'D');
        Check.due("items stay when the schema grows", x.item(7), 2);
        x.openLoop(0, 1);
        Check.due("and when a loop is open", x.item(6), 1);
        Check.says("Promise 19", "Throws `IllegalStateException` if there is no accepted message");
        withoutMessage((y, segment) -> y.item(segment));
        Check.says("Promise 19", "Throws `IndexOutOfBoundsException` if there is no such segment");
        noSuchSegment((y, segment) -> y.item(segment));
    }

    private static void pass() {
        Check.says("Promise 20", "Returns in which pass of its loop a segment of the body is.");
        Run x = ready();
        Check.accepts(x, Check.message(1, Check.body("ABBCC")));
        Check.due("pass 3", x.pass(3), 1);
        Check.due("pass 4", x.pass(4), 2);
        Check.says("Promise 20", "`segment`: 0 for the first one");
        Check.due("pass 0", x.pass(0), 0);
        Check.says("Promise 20", "Returns 1 for the first pass; 0 if its item is in no loop.");
        Run y = new Run();
        y.openLoop(0, 9);
        y.addItem('A', 1, 1);
        y.closeLoop();
        y.addItem('A', 0, 1);
        y.openLoop(0, 9);
        y.addItem('B', 1, 1);
        y.closeLoop();
        Check.accepts(y, Check.message(1, Check.body("AAAAAAAAAABB")));
        Check.due("the passes", Check.division(y), "A01,A02,A03,A04,A05,A06,A07,A08,A09,A10,B21,B22");
        // The item that took a segment in a pass of the former message is in no loop now.
        x.clear();
        x.addItem('B', 0, 9);
        Check.accepts(x, Check.message(2, Check.body("BBBBB")));
        Check.due("passes without a loop", Check.division(x), "B00,B00,B00,B00,B00");
        Check.says("Promise 20", "Throws `IllegalStateException` if there is no accepted message");
        withoutMessage((z, segment) -> z.pass(segment));
        Check.says("Promise 20", "Throws `IndexOutOfBoundsException` if there is no such segment");
        noSuchSegment((z, segment) -> z.pass(segment));
    }

    /** What the message before had is not seen in the next one, nor is what a faulty one would have had. */
    private static void nextMessage() {
        Run x = ready();
        Check.accepts(x, Check.message(1, "A+one+two'C+three'"));
        Check.accepts(x, Check.message(2, "A+4'"));
        Check.due("segments of the next one", x.segments(), 1);
        Check.due("its elements", x.elements(0), 1);
        Check.due("its content", Check.content(x, 0, 0), "4");
        Check.due("a fault", Check.read(x, "H+3'A+x'C+y+z'T+5+3'"), "8@14");
        Check.due("segments after a fault", x.segments(), 1);
        Check.due("content after a fault", Check.content(x, 0, 0), "4");
        Check.fed(x, "H+3'A+x'");
        Check.due("content after feeding", Check.content(x, 0, 0), "4");
    }
}
