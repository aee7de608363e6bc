/** Promises 1 to 6: a new object, addItem, openLoop, closeLoop, clear, items. */
final class SchemaTest {
    public static void main(String[] args) {
        newObject();
        addItem();
        addItemIntoLoop();
        openLoop();
        closeLoop();
        loopBounds();
        clear();
        Check.end();
    }

    private static void newObject() {
        Segmentry x = new Segmentry();
        Check.due("items of a new object", x.items(), 0);
        Check.due("length of a new object", x.length(), 0);
        Check.due("written of a new object", x.written(), 0);
        Check.badIndex("faultKind of a new object", () -> x.faultKind(0));
        Check.badIndex("faultPlace of a new object", () -> x.faultPlace(0));
        Check.badState("segments of a new object", () -> x.segments());
        Check.badState("closeLoop of a new object", () -> x.closeLoop());
        Check.fails("control of a new object", java.util.NoSuchElementException.class, () -> x.control());
        Check.due("an empty body without a schema", Check.read(x, "H+1'T+2+1'"), "");
        Check.due("a body without a schema", Check.read(x, "H+2'A'T+3+2'"), "11@4");
    }

    private static void addItem() {
        Segmentry x = new Segmentry();
        char[] wrongTags = {'H', 'T', 'a', 'z', '@', '[', '1', ' ', (char) 0, (char) 193, (char) 65535};
        for (char tag : wrongTags) {
            Check.badArgument("addItem of tag " + (int) tag, () -> x.addItem(tag, 0, 1));
        }
        int[][] wrongTimes = {{-1, 1}, {0, 0}, {0, 10}, {10, 10}, {2, 1}, {9, 8}, {0, -1},
            {Integer.MIN_VALUE, 1}, {0, Integer.MAX_VALUE}, {Integer.MAX_VALUE, Integer.MIN_VALUE}};
        for (int[] times : wrongTimes) {
            Check.badArgument("addItem " + times[0] + " to " + times[1], () -> x.addItem('A', times[0], times[1]));
        }
        Check.due("items after wrong ones", x.items(), 0);
        String tags = "AZGISUBCDE";
        for (int number = 0; number < 10; number++) {
            Check.due("addItem " + number, x.addItem(tags.charAt(number), number % 10, 9), number);
            Check.due("items", x.items(), number + 1);
        }
        Check.badState("the item 10", () -> x.addItem('A', 0, 1));
        Check.badArgument("the item 10 with a wrong tag", () -> x.addItem('H', 0, 1));
        Check.badArgument("the item 10 with wrong numbers", () -> x.addItem('A', 0, 10));
        Check.due("items in the end", x.items(), 10);
    }

    private static void addItemIntoLoop() {
        Segmentry x = new Segmentry();
        x.addItem('A', 1, 1);
        x.openLoop(1, 2);
        Check.due("an item in a loop", x.addItem('B', 1, 1), 1);
        x.closeLoop();
        Check.due("an item behind a loop", x.addItem('C', 1, 1), 2);
        Check.due("a body with a loop", Check.read(x, Check.message(1, Check.body("ABBC"))), "");
        Check.due("its division", Check.division(x), "A00,B11,B12,C20");
        for (int number = 3; number < 10; number++) {
            x.openLoop(0, 1);
            x.addItem('D', 0, 1);
            x.closeLoop();
        }
        x.openLoop(0, 1);
        Check.badState("the item 10 in a loop", () -> x.addItem('A', 0, 1));
        Check.badState("closing the loop that can't be filled", () -> x.closeLoop());
        Check.badState("reading with it", () -> x.read());
    }

    private static void openLoop() {
        Segmentry x = new Segmentry();
        int[][] wrongTimes = {{-1, 1}, {0, 0}, {0, 10}, {10, 10}, {2, 1}, {Integer.MIN_VALUE, 1}, {0, Integer.MAX_VALUE}};
        for (int[] times : wrongTimes) {
            Check.badArgument("openLoop " + times[0] + " to " + times[1], () -> x.openLoop(times[0], times[1]));
        }
        Check.badState("closeLoop after wrong loops", () -> x.closeLoop());
        x.openLoop(9, 9);
        Check.badState("openLoop in a loop", () -> x.openLoop(0, 1));
        Check.badArgument("openLoop in a loop with wrong numbers", () -> x.openLoop(1, 0));
        Check.badState("read in a loop", () -> x.read());
    }

    private static void closeLoop() {
        Segmentry x = new Segmentry();
        x.addItem('A', 0, 1);
        Check.badState("closeLoop without a loop", () -> x.closeLoop());
        x.openLoop(0, 1);
        Check.badState("closeLoop without items", () -> x.closeLoop());
        Check.badState("openLoop, as it is still open", () -> x.openLoop(0, 1));
        x.addItem('B', 0, 1);
        x.addItem('C', 0, 1);
        x.addItem('D', 0, 1);
        Check.due("closeLoop", x.closeLoop(), 3);
        Check.badState("closeLoop again", () -> x.closeLoop());
        x.openLoop(0, 1);
        x.addItem('E', 0, 1);
        Check.due("closeLoop of the next one", x.closeLoop(), 1);
        Check.due("items", x.items(), 5);
    }

    private static void loopBounds() {
        Segmentry x = new Segmentry();
        x.openLoop(2, 3);
        x.addItem('A', 1, 1);
        x.closeLoop();
        Check.due("too few passes", Check.read(x, Check.message(1, Check.body("A"))), "12@6");
        Check.due("too many passes", Check.read(x, Check.message(1, Check.body("AAAA"))), "11@10");
        Check.due("least passes", Check.read(x, Check.message(1, Check.body("AA"))), "");
        Check.due("most passes", Check.read(x, Check.message(2, Check.body("AAA"))), "");
        Check.due("their division", Check.division(x), "A01,A02,A03");
    }

    private static void clear() {
        Segmentry x = new Segmentry();
        x.addItem('A', 0, 1);
        x.addRule(0, 'B');
        Check.due("a message", Check.read(x, Check.message(41, "A'")), "");
        Check.due("its translation", x.write(), 12);
        x.feed('H');
        x.openLoop(0, 1);
        x.clear();
        Check.due("items after clear", x.items(), 0);
        Check.badState("segments after clear", () -> x.segments());
        Check.badState("tag after clear", () -> x.tag(0));
        Check.badState("write after clear", () -> x.write());
        Check.badState("closeLoop after clear", () -> x.closeLoop());
        Check.badIndex("addRule after clear", () -> x.addRule(0, 'B'));
        Check.badIndex("addField after clear", () -> x.addField(0, 0));
        Check.badIndex("setCondition after clear", () -> x.setCondition(0, 0, 'x'));
        Check.due("control after clear", x.control(), 41);
        Check.due("length after clear", x.length(), 1);
        Check.due("what is written after clear", Check.written(x), "H+1'B'T+3+1'");
        Check.due("the next number still counts", Check.read(x, "+41'T+2+41'"), "10@0");
        x.clear();
        Check.badIndex("the item is gone", () -> x.addRule(0, 'C'));
        Check.due("a new item", x.addItem('C', 0, 1), 0);
        Check.due("a new rule", x.addRule(0, 'D'), 0);
        Check.due("the old tag is unexpected", Check.read(x, Check.message(42, "A'")), "11@5");
        Check.due("the next message", Check.read(x, Check.message(42, "C'")), "");
        x.write();
        Check.due("the next translation", Check.written(x), "H+2'D'T+3+2'");
    }
}
