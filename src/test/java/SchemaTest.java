/** Terms, "The schema", and promises 1 to 6: a new object, addItem, openLoop, closeLoop, clear, items. */
final class SchemaTest {
    private static final int[] WILD = {-1, 10, 11, -9, 256, Integer.MIN_VALUE, Integer.MAX_VALUE};
    private static final char[] WRONG_TAGS = {'H', 'T', '@', '[', 'a', 'z', 'h', '1', ' ', 0, 193, 321, 65535};

    public static void main(String[] args) {
        all();
        Check.end();
    }

    static void all() {
        itemsAndLoops();
        tagsAndTimes();
        numbers();
        newObject();
        addItem();
        tagOfItem();
        timesOfItem();
        addItemReturns();
        tenItems();
        tenLoops();
        openLoop();
        timesOfLoop();
        openLoopTwice();
        closeLoop();
        closeLoopReturns();
        closeNoLoop();
        clear();
        clearForgets();
        clearKeeps();
        items();
    }

    private static void itemsAndLoops() {
        Check.says("Terms", "The schema is a list of items and loops.");
        Run x = new Run();
        x.addItem('A', 1, 1);
        x.openLoop(2, 2);
        x.addItem('B', 1, 1);
        x.addItem('C', 1, 1);
        x.closeLoop();
        x.addItem('D', 1, 1);
        x.openLoop(1, 1);
        x.addItem('E', 1, 1);
        x.closeLoop();
        Check.accepts(x, Check.message(1, Check.body("ABCBCDE")));
        Check.due("its division", Check.division(x), "A00,B11,C21,B12,C22,D30,E41");
        Check.due("without the second loop", Check.read(x, Check.message(2, Check.body("ABCBCD"))), "12@16");
    }

    private static void tagsAndTimes() {
        Check.says("Terms", "An item has a tag, a letter from A to Z but neither H nor T, and a least and a greatest number "
            + "of times; a loop has a list of items, and a least and a greatest number of times, too.");
        for (char tag = 'A'; tag <= 'Z'; tag++) {
            char itemTag = tag;
            Run x = new Run();
            if (tag == 'H' || tag == 'T') {
                Check.badArgument("an item " + tag, () -> x.addItem(itemTag, 1, 1));
                continue;
            }
            Check.due("an item " + tag, x.addItem(tag, 1, 1), 0);
            Check.due("another tag", Check.read(x, Check.message(1, (tag == 'B' ? 'C' : 'B') + "'")), "11@4");
            Check.accepts(x, Check.message(1, tag + "'"));
        }
        Run y = new Run();
        y.openLoop(2, 3);
        y.addItem('A', 1, 2);
        y.addItem('B', 0, 1);
        y.closeLoop();
        Check.due("one pass", Check.read(y, Check.message(1, Check.body("AB"))), "12@8");
        Check.accepts(y, Check.message(1, Check.body("ABA")));
        Check.accepts(y, Check.message(2, Check.body("AABAABAAB")));
        Check.due("four passes", Check.read(y, Check.message(3, Check.body("AABAABAABA"))), "11@22");
    }

    private static void numbers() {
        Check.says("Terms", "Items are numbered from 0 in the order in which they were added, those in loops included.");
        Run x = new Run();
        Check.due("the first item", x.addItem('A', 1, 1), 0);
        x.openLoop(1, 2);
        Check.due("the first one in a loop", x.addItem('B', 1, 1), 1);
        Check.due("the second one in a loop", x.addItem('C', 1, 1), 2);
        x.closeLoop();
        Check.due("one behind the loop", x.addItem('D', 1, 1), 3);
        x.openLoop(1, 2);
        Check.due("one in the next loop", x.addItem('E', 1, 1), 4);
        x.closeLoop();
        Check.accepts(x, Check.message(1, Check.body("ABCDE")));
        Check.due("the items of its segments", Check.division(x), "A00,B11,C21,D30,E41");
        Check.due("a rule of the last item", x.addRule(4, 'A'), 0);
        Check.badIndex("a rule of the one behind it", () -> x.addRule(5, 'A'));
    }

    private static void newObject() {
        Check.says("Promise 1", "Creates a translator without a schema.");
        Run x = new Run();
        Check.due("items", x.items(), 0);
        Check.due("length", x.length(), 0);
        Check.due("written", x.written(), 0);
        Check.badIndex("faultKind", () -> x.faultKind(0));
        Check.badIndex("faultPlace", () -> x.faultPlace(0));
        Check.badState("segments", () -> x.segments());
        Check.badState("write", () -> x.write());
        Check.badState("closeLoop", () -> x.closeLoop());
        Check.badIndex("letter", () -> x.letter(0));
        Check.badIndex("addRule", () -> x.addRule(0, 'A'));
        Check.badIndex("addField", () -> x.addField(0, 0));
        Check.noElement("control", () -> x.control());
        Check.due("a body without a schema", Check.read(x, "H+1'A'T+3+1'"), "11@4");
        Check.due("an empty body without a schema", Check.read(x, "H+1'T+2+1'"), "");
        // Two objects have nothing in common.
        Run y = new Run();
        y.addItem('A', 1, 1);
        Check.due("items when another object has one", x.items(), 0);
        Check.due("items of the other one", y.items(), 1);
    }

    private static void addItem() {
        Check.says("Promise 2", "Adds an item at the end of the list, or of the list of the open loop if there is one.");
        Run x = new Run();
        x.addItem('A', 1, 1);
        x.addItem('B', 1, 1);
        Check.due("the wrong order", Check.read(x, Check.message(1, Check.body("BA"))), "11@4");
        Check.accepts(x, Check.message(1, Check.body("AB")));
        x.openLoop(2, 2);
        x.addItem('C', 1, 1);
        x.addItem('D', 1, 1);
        x.closeLoop();
        Check.due("the wrong order in a loop", Check.read(x, Check.message(2, Check.body("ABCDDC"))), "11@12");
        x.addItem('E', 1, 1);
        Check.due("behind a loop, not in it", Check.read(x, Check.message(2, Check.body("ABCDECDE"))), "11@12");
        Check.accepts(x, Check.message(2, Check.body("ABCDCDE")));
        Check.due("the division", Check.division(x), "A00,B10,C21,D31,C22,D32,E40");
    }

    private static void tagOfItem() {
        Check.says("Promise 2", "`tag`: A to Z, but neither H nor T");
        Run x = new Run();
        for (char tag : "AZGISU".toCharArray()) {
            x.addItem(tag, 0, 1);
        }
        Check.due("items of good tags", x.items(), 6);
        Check.badArgument("an item H", () -> x.addItem('H', 0, 1));
        Check.badArgument("an item T", () -> x.addItem('T', 0, 1));
        Check.badArgument("an item @", () -> x.addItem('@', 0, 1));
        Check.badArgument("an item [", () -> x.addItem('[', 0, 1));
        Check.due("items then", x.items(), 6);
    }

    private static void timesOfItem() {
        Check.says("Promise 2", "`least`: 0 to 9");
        times("item", 0, 9, true);
        times("item", 9, 9, true);
        times("item", -1, 9, false);
        times("item", 10, 9, false);
        times("item", 10, 10, false);
        Check.says("Promise 2", "`most`: 1 to 9, not less than least");
        times("item", 0, 1, true);
        times("item", 1, 1, true);
        times("item", 1, 9, true);
        times("item", 0, 0, false);
        times("item", 0, 10, false);
        times("item", 2, 1, false);
        times("item", 2, 2, true);
        times("item", 9, 8, false);
        Check.says("Promise 2", "Throws `IllegalArgumentException` if tag, least or most is not as told");
        for (char tag : WRONG_TAGS) {
            Run x = new Run();
            Check.badArgument("an item of the tag " + (int) tag, () -> x.addItem(tag, 0, 1));
            Check.due("items then", x.items(), 0);
        }
        allTimes("item");
    }

    /** Adds an item or opens a loop with these numbers, which are good or not. */
    private static void times(String what, int least, int most, boolean good) {
        Run x = new Run();
        String told = what + " of " + least + " to " + most;
        boolean item = what.equals("item");
        Runnable call = item ? () -> x.addItem('A', least, most) : () -> x.openLoop(least, most);
        if (good) {
            call.run();
            Check.badState(told + " can't be closed yet", () -> x.closeLoop());
        } else {
            Check.badArgument(told, call);
        }
        Check.due("items after " + told, x.items(), item && good ? 1 : 0);
    }

    private static void allTimes(String what) {
        for (int least = -1; least <= 10; least++) {
            for (int most = -1; most <= 10; most++) {
                times(what, least, most, least >= 0 && most >= 1 && most <= 9 && least <= most);
            }
        }
        for (int wild : WILD) {
            times(what, wild, 9, false);
            times(what, 0, wild, false);
            times(what, wild, wild, false);
        }
    }

    private static void addItemReturns() {
        Check.says("Promise 2", "Returns its number.");
        Run x = new Run();
        for (int number = 0; number < 9; number++) {
            Check.due("addItem", x.addItem('A', 0, 1), number);
        }
        Check.badArgument("a wrong item", () -> x.addItem('A', 0, 0));
        Check.due("addItem after a wrong one", x.addItem('A', 0, 1), 9);
        x.clear();
        Check.due("addItem after clear", x.addItem('A', 0, 1), 0);
        x.openLoop(0, 1);
        Check.due("addItem in a loop", x.addItem('A', 0, 1), 1);
    }

    private static void tenItems() {
        Check.says("Promise 2", "Throws `IllegalStateException` if there are 10 items");
        Run x = new Run();
        for (int number = 0; number < 9; number++) {
            x.addItem('A', 0, 1);
        }
        Check.due("the tenth item", x.addItem('B', 1, 1), 9);
        Check.badState("one more item", () -> x.addItem('C', 1, 1));
        Check.due("items", x.items(), 10);
        Check.accepts(x, Check.message(1, Check.body("AAAAAAAAAB")));
        Check.due("a body of the item refused", Check.read(x, Check.message(2, Check.body("BC"))), "11@6");
        x.clear();
        Check.due("an item after clear", x.addItem('C', 1, 1), 0);
        // The items in loops count, too.
        Run y = new Run();
        for (int loop = 0; loop < 5; loop++) {
            y.openLoop(0, 1);
            y.addItem('A', 0, 1);
            y.addItem('B', 0, 1);
            y.closeLoop();
        }
        Check.badState("one more item behind the loops", () -> y.addItem('C', 0, 1));
        y.openLoop(0, 1);
        Check.badState("one more item in a loop", () -> y.addItem('C', 0, 1));
        Check.badState("closing the loop without items", () -> y.closeLoop());
        Check.due("items in loops", y.items(), 10);
    }

    /** Ten items may stand in ten loops, and one more loop may be open behind them, which can't be closed. */
    private static void tenLoops() {
        Run x = new Run();
        for (int loop = 0; loop < 10; loop++) {
            x.openLoop(1, 1 + loop % 9);
            Check.due("an item of its own loop", x.addItem((char) ('U' + loop % 3), 1, 1), loop);
            Check.due("closeLoop", x.closeLoop(), 1);
        }
        Check.accepts(x, Check.message(1, Check.body("UVWUVWUVWWU")));
        Check.due("the division", Check.division(x), "U01,V11,W21,U31,V41,W51,U61,V71,W81,W82,U91");
        x.openLoop(1, 1);
        Check.badState("one more item in the loop behind them", () -> x.addItem('A', 1, 1));
        Check.badState("closing the loop behind them", () -> x.closeLoop());
        Check.badState("one more loop in it", () -> x.openLoop(1, 1));
        Check.badState("reading with it", () -> x.read());
        x.clear();
        Check.due("read after clear", Check.read(x, Check.message(2, "")), "");
        // Ten items in no loop, of which each takes its own segments.
        Run y = new Run();
        for (int item = 0; item < 10; item++) {
            y.addItem('A', item < 8 ? 1 : 2, 2);
        }
        Check.due("a segment too few", Check.read(y, Check.message(1, Check.body("A".repeat(11)))), "12@26");
        Check.accepts(y, Check.message(1, Check.body("A".repeat(12))));
        Check.due("the division of the least", Check.division(y), "A00,A10,A20,A30,A40,A50,A60,A70,A80,A80,A90,A90");
    }

    private static void openLoop() {
        Check.says("Promise 3", "Opens a loop, which is added at the end of the list.");
        Run x = new Run();
        x.addItem('A', 1, 1);
        x.openLoop(1, 1);
        x.addItem('B', 1, 1);
        x.closeLoop();
        x.openLoop(1, 1);
        x.addItem('C', 1, 1);
        x.closeLoop();
        Check.due("the loop first", Check.read(x, Check.message(1, Check.body("BAC"))), "11@4");
        Check.due("the second loop first", Check.read(x, Check.message(1, Check.body("ACB"))), "11@6");
        Check.accepts(x, Check.message(1, Check.body("ABC")));
    }

    private static void timesOfLoop() {
        Check.says("Promise 3", "`least`: 0 to 9");
        times("loop", 0, 9, true);
        times("loop", 9, 9, true);
        times("loop", -1, 9, false);
        times("loop", 10, 9, false);
        times("loop", 10, 10, false);
        Check.says("Promise 3", "`most`: 1 to 9, not less than least");
        times("loop", 0, 1, true);
        times("loop", 1, 1, true);
        times("loop", 1, 9, true);
        times("loop", 0, 0, false);
        times("loop", 0, 10, false);
        times("loop", 2, 1, false);
        times("loop", 2, 2, true);
        times("loop", 9, 8, false);
        Check.says("Promise 3", "Throws `IllegalArgumentException` if least or most is not as told");
        allTimes("loop");
        Run x = new Run();
        Check.badArgument("a wrong loop", () -> x.openLoop(0, 0));
        Check.due("it is not open", x.read(), 2);
        x.addItem('A', 1, 1);
        Check.badState("nor can it be closed", () -> x.closeLoop());
    }

    private static void openLoopTwice() {
        Check.says("Promise 3", "Throws `IllegalStateException` if a loop is open");
        Run x = new Run();
        x.openLoop(0, 1);
        Check.badState("openLoop in a loop without items", () -> x.openLoop(0, 1));
        x.addItem('A', 1, 1);
        Check.badState("openLoop in a loop", () -> x.openLoop(2, 2));
        x.closeLoop();
        Check.accepts(x, Check.message(1, "A'"));
        x.openLoop(0, 1);
        Check.badState("openLoop in the next loop", () -> x.openLoop(0, 1));
        x.clear();
        x.openLoop(0, 1);
        x.addItem('B', 1, 1);
        Check.due("a loop that is opened after clear", x.closeLoop(), 1);
        Run y = new Run();
        for (int number = 0; number < 10; number++) {
            y.addItem('A', 0, 1);
        }
        y.openLoop(0, 1);
        Check.badState("a loop behind ten items is open, too", () -> y.openLoop(0, 1));
    }

    private static void closeLoop() {
        Check.says("Promise 4", "Closes the open loop.");
        Run x = new Run();
        x.openLoop(1, 2);
        x.addItem('A', 1, 1);
        Check.badState("read in the loop", () -> x.read());
        x.closeLoop();
        x.addItem('B', 1, 1);
        Check.due("the item behind it is in no loop", Check.read(x, Check.message(1, Check.body("ABAB"))), "11@8");
        Check.accepts(x, Check.message(1, Check.body("AAB")));
        Check.due("its division", Check.division(x), "A01,A02,B10");
    }

    private static void closeLoopReturns() {
        Check.says("Promise 4", "Returns how many items it has.");
        Run x = new Run();
        x.addItem('A', 0, 1);
        x.openLoop(0, 1);
        x.addItem('B', 0, 1);
        Check.due("closeLoop of one item", x.closeLoop(), 1);
        x.openLoop(0, 1);
        x.addItem('C', 0, 1);
        x.addItem('C', 0, 1);
        Check.due("closeLoop of two items", x.closeLoop(), 2);
        Check.due("items", x.items(), 4);
        Run y = new Run();
        y.openLoop(0, 1);
        for (int number = 0; number < 10; number++) {
            y.addItem('A', 0, 1);
        }
        Check.badState("the item 10", () -> y.addItem('A', 0, 1));
        Check.due("closeLoop of ten items", y.closeLoop(), 10);
    }

    private static void closeNoLoop() {
        Check.says("Promise 4", "Throws `IllegalStateException` if no loop is open, or it has no items");
        Run x = new Run();
        Check.badState("closeLoop at first", () -> x.closeLoop());
        x.addItem('A', 0, 1);
        Check.badState("closeLoop behind an item", () -> x.closeLoop());
        x.openLoop(0, 1);
        Check.badState("closeLoop without items", () -> x.closeLoop());
        Check.badState("it is still open", () -> x.read());
        x.addItem('B', 0, 1);
        Check.due("closeLoop with an item", x.closeLoop(), 1);
        Check.badState("closeLoop again", () -> x.closeLoop());
        x.openLoop(0, 1);
        x.addItem('C', 0, 1);
        x.clear();
        Check.badState("closeLoop after clear", () -> x.closeLoop());
    }

    private static void clear() {
        Check.says("Promise 5", "Removes all items, loops (an open one, too) and rules,");
        Run x = new Run();
        x.addItem('A', 1, 1);
        x.openLoop(1, 1);
        x.addItem('B', 1, 1);
        x.closeLoop();
        x.addRule(0, 'C');
        x.addRule(1, 'D');
        x.openLoop(1, 1);
        x.addItem('E', 1, 1);
        x.clear();
        Check.due("items", x.items(), 0);
        Check.badIndex("a rule of no item", () -> x.addRule(0, 'C'));
        Check.badIndex("a field of no rule", () -> x.addField(0, 0));
        Check.badIndex("a condition of no rule", () -> x.setCondition(0, 0, 'x'));
        Check.badState("no loop is open", () -> x.closeLoop());
        Check.due("a body of the items removed", Check.read(x, Check.message(1, Check.body("AB"))), "11@4");
        Check.due("an empty body", Check.read(x, Check.message(1, "")), "");
        Check.due("a new item", x.addItem('A', 0, 1), 0);
        Check.accepts(x, Check.message(2, "A'"));
        Check.writes(x, "H+1'T+2+1'");
        Check.due("a new rule", x.addRule(0, 'Z'), 0);
        Check.writes(x, "H+2'Z'T+3+2'");
        x.clear();
        x.clear();
        Check.due("items when cleared twice", x.items(), 0);
        clearOfFullSchema();
    }

    private static void clearOfFullSchema() {
        Run x = new Run();
        for (int time = 0; time < 3; time++) {
            for (int number = 0; number < 10; number++) {
                x.openLoop(1, 1);
                Check.due("an item of ten", x.addItem('A', 1, 1), number);
                x.closeLoop();
                Check.due("a rule of ten", x.addRule(number, 'B'), number);
            }
            Check.badState("one more item", () -> x.addItem('A', 1, 1));
            Check.badState("one more rule", () -> x.addRule(0, 'B'));
            x.clear();
        }
        Check.due("items of ten removed", x.items(), 0);
    }

    private static void clearForgets() {
        Check.says("Promise 5", "and forgets the accepted message;");
        Run x = new Run();
        x.addItem('A', 0, 1);
        Check.accepts(x, Check.message(41, "A+x'"));
        Check.due("segments before", x.segments(), 1);
        x.clear();
        Check.badState("segments", () -> x.segments());
        Check.badState("tag", () -> x.tag(0));
        Check.badState("elements", () -> x.elements(0));
        Check.badState("contentLength", () -> x.contentLength(0, 0));
        Check.badState("content", () -> x.content(0, 0, 0));
        Check.badState("item", () -> x.item(0));
        Check.badState("pass", () -> x.pass(0));
        Check.badState("write", () -> x.write());
        Check.says("Promise 5", "its control number still counts for the next one.");
        Check.due("control", x.control(), 41);
        Check.due("the same number", Check.read(x, Check.message(41, "")), "10@0");
        Check.due("greater by 2", Check.read(x, Check.message(43, "")), "10@0");
        Check.due("greater by 1", Check.read(x, Check.message(42, "")), "");
        Check.due("control of the next one", x.control(), 42);
        Run y = new Run();
        y.clear();
        Check.noElement("control if none was accepted", () -> y.control());
        Check.due("any number if none was accepted", Check.read(y, Check.message(7, "")), "");
    }

    /** Clear changes nothing but what it is told to. */
    private static void clearKeeps() {
        Run x = new Run();
        x.addItem('A', 0, 1);
        x.addRule(0, 'B');
        Check.accepts(x, Check.message(1, "A'"));
        Check.writes(x, "H+1'B'T+3+1'");
        Check.due("a fault", Check.read(x, "H+2'x'"), "2@4");
        Check.fed(x, "H+2'");
        x.clear();
        Check.due("the text", x.length(), 4);
        Check.due("the fault's kind", x.faultKind(0), 2);
        Check.due("the fault's place", x.faultPlace(0), 4);
        Check.due("what was written", Check.written(x), "H+1'B'T+3+1'");
        Check.accepts(x, "T+2+2'");
        Check.writes(x, "H+2'T+2+2'");
    }

    private static void items() {
        Check.says("Promise 6", "Returns the number of items.");
        Run x = new Run();
        Check.due("items at first", x.items(), 0);
        x.addItem('A', 0, 1);
        Check.due("items", x.items(), 1);
        x.openLoop(0, 1);
        Check.due("a loop is no item", x.items(), 1);
        x.addItem('B', 0, 1);
        Check.due("an item in a loop is one", x.items(), 2);
        x.closeLoop();
        for (int number = 3; number <= 10; number++) {
            x.addItem('C', 0, 1);
            Check.due("items", x.items(), number);
        }
        x.clear();
        Check.due("items after clear", x.items(), 0);
    }
}
