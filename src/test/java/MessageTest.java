/** Promises 13 to 20: control, segments, tag, elements, contentLength, content, item, pass. */
final class MessageTest {
    public static void main(String[] args) {
        withoutMessage();
        control();
        segments();
        contents();
        wrongNumbers();
        itemsAndPasses();
        nextMessage();
        Check.end();
    }

    private static Segmentry ready() {
        Segmentry x = new Segmentry();
        x.addItem('A', 1, 9);
        x.openLoop(0, 9);
        x.addItem('B', 0, 9);
        x.addItem('C', 1, 1);
        x.closeLoop();
        return x;
    }

    private static void withoutMessage() {
        Segmentry x = ready();
        Check.read(x, "H+1'T+2+1'");
        Check.badState("segments", () -> x.segments());
        int[] numbers = {0, -1, 20, Integer.MAX_VALUE, Integer.MIN_VALUE};
        for (int number : numbers) {
            Check.badState("tag " + number, () -> x.tag(number));
            Check.badState("elements " + number, () -> x.elements(number));
            Check.badState("contentLength " + number, () -> x.contentLength(number, 0));
            Check.badState("content " + number, () -> x.content(number, number, number));
            Check.badState("item " + number, () -> x.item(number));
            Check.badState("pass " + number, () -> x.pass(number));
        }
        Check.fails("control", java.util.NoSuchElementException.class, () -> x.control());
    }

    private static void control() {
        Segmentry x = ready();
        Check.due("a message", Check.read(x, "H+0041'A'T+3+41'"), "");
        Check.due("its number", x.control(), 41);
        Check.read(x, "H+43'A'T+3+43'");
        Check.due("the number after a fault", x.control(), 41);
        x.clear();
        Check.due("the number after clear", x.control(), 41);
        Check.due("the next one", Check.read(x, "H+42'T+2+42'"), "");
        Check.due("its number, too", x.control(), 42);
        Segmentry y = new Segmentry();
        Check.read(y, "H+0'T+2+0'");
        Check.due("the number 0", y.control(), 0);
    }

    private static void segments() {
        Segmentry x = ready();
        Check.read(x, Check.message(1, Check.body("AABCC")));
        Check.due("segments", x.segments(), 5);
        Check.due("tag 0", x.tag(0), 'A');
        Check.due("tag 2", x.tag(2), 'B');
        Check.due("tag 4", x.tag(4), 'C');
        Segmentry empty = new Segmentry();
        Check.read(empty, "H+1'T+2+1'");
        Check.due("segments of an empty body", empty.segments(), 0);
        Check.badIndex("tag of an empty body", () -> empty.tag(0));
        Segmentry full = new Segmentry();
        full.addItem('A', 0, 9);
        full.addItem('B', 0, 9);
        Check.read(full, Check.message(1, Check.body("AAAAAAAAABBBBBBBBB")));
        Check.due("segments of a full body", full.segments(), 18);
        Check.due("its last tag", full.tag(17), 'B');
        Check.badIndex("the tag behind it", () -> full.tag(18));
    }

    private static void contents() {
        Segmentry x = ready();
        Check.due("a message", Check.read(x, Check.message(1,
            "A'A+'A+++'A+x?+?'??y+12345678+ ++~'?A+?a?b?c?d?e?f?g?h'C+1+2+3+4+5'")), "");
        int[] elements = {0, 1, 3, 5, 1, 5};
        for (int segment = 0; segment < elements.length; segment++) {
            Check.due("elements of " + segment, x.elements(segment), elements[segment]);
        }
        Check.due("tag of ?A", x.tag(4), 'A');
        Check.due("an empty content", x.contentLength(1, 0), 0);
        Check.due("the last empty content", x.contentLength(2, 2), 0);
        Check.due("a content with released letters", Check.content(x, 3, 0), "x+'?y");
        Check.due("its length", x.contentLength(3, 0), 5);
        Check.due("a content of 8", Check.content(x, 3, 1), "12345678");
        Check.due("a blank", Check.content(x, 3, 2), " ");
        Check.due("an empty one between others", Check.content(x, 3, 3), "");
        Check.due("the last one", Check.content(x, 3, 4), "~");
        Check.due("a content of 8, each released", Check.content(x, 4, 0), "abcdefgh");
        Check.due("the fifth element", Check.content(x, 5, 4), "5");
    }

    private static void wrongNumbers() {
        Segmentry x = ready();
        Check.read(x, Check.message(1, "A+xy+'C+1+2+3+4+5'"));
        int[] wrongSegments = {-1, 2, 3, 20, Integer.MIN_VALUE, Integer.MAX_VALUE};
        for (int number : wrongSegments) {
            Check.badIndex("tag " + number, () -> x.tag(number));
            Check.badIndex("elements " + number, () -> x.elements(number));
            Check.badIndex("contentLength " + number, () -> x.contentLength(number, 0));
            Check.badIndex("content " + number, () -> x.content(number, 0, 0));
            Check.badIndex("item " + number, () -> x.item(number));
            Check.badIndex("pass " + number, () -> x.pass(number));
            Check.badIndex("contentLength 0, " + number, () -> x.contentLength(0, number));
            Check.badIndex("content 0, " + number, () -> x.content(0, number, 0));
            Check.badIndex("content 0, 0, " + number, () -> x.content(0, 0, number));
        }
        Check.badIndex("content 0, 1, 0", () -> x.content(0, 1, 0));
        Check.badIndex("contentLength 1, 5", () -> x.contentLength(1, 5));
        Check.badIndex("content 1, 0, 1", () -> x.content(1, 0, 1));
        Check.due("content 0, 0, 1", x.content(0, 0, 1), 'y');
    }

    private static void itemsAndPasses() {
        Segmentry x = ready();
        Check.read(x, Check.message(1, Check.body("AABBCCBC")));
        Check.due("items and passes", Check.division(x), "A00,A00,B11,B11,C21,C22,B13,C23");
        x.addItem('D', 0, 1);
        x.addRule(0, 'D');
        Check.due("they stay when the schema grows", Check.division(x), "A00,A00,B11,B11,C21,C22,B13,C23");
        x.openLoop(0, 1);
        Check.due("and when a loop is open", x.item(7), 2);
    }

    private static void nextMessage() {
        Segmentry x = ready();
        Check.read(x, Check.message(1, "A+one+two'C+three'"));
        Check.read(x, Check.message(2, "A+4'"));
        Check.due("segments of the next one", x.segments(), 1);
        Check.due("its elements", x.elements(0), 1);
        Check.due("its content", Check.content(x, 0, 0), "4");
        Check.read(x, "H+3'A+x'C+y+z'T+5+3'");
        Check.due("segments after a fault", x.segments(), 1);
        Check.due("content after a fault", Check.content(x, 0, 0), "4");
        Check.fed(x, "H+3'A+x'");
        Check.due("content after feeding", Check.content(x, 0, 0), "4");
        x.clear();
        Check.badState("segments after clear", () -> x.segments());
        x.discard();
        Check.due("a message after clear", Check.read(x, "H+3'T+2+3'"), "");
        Check.due("its segments", x.segments(), 0);
    }
}
