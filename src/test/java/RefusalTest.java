import java.util.ArrayList;
import java.util.List;

/** Terms, the last two sentences: what a method that throws changes, and which exception comes first. */
final class RefusalTest {
    private static final int[] NUMBERS = {-1, 0, 1, 2, 4, 5, 8, 9, 10, 300, Integer.MIN_VALUE, Integer.MAX_VALUE};
    private static final char[] LETTERS = {0, 31, 32, '\'', '+', '?', '@', 'A', 'H', 'T', 'Z', '[', 126, 127, 65535};

    /** Some calls on an object. */
    private interface Calls {
        void on(Run x);
    }

    /** A call whose answer is told as a text. */
    private interface Answer {
        String of(Run x);
    }

    public static void main(String[] args) {
        all();
        Check.end();
    }

    static void all() {
        changesNothing();
        argumentBeforeState();
        stateBeforeIndex();
        indexBeforeArgumentBeforeState();
    }

    private static void changesNothing() {
        Check.says("Terms", "A method that throws an exception changes nothing.");
        List<Calls> calls = everyCall();
        Calls[] states = {x -> { }, RefusalTest::openLoop, RefusalTest::openLoopWithItem, RefusalTest::fullSchema,
            RefusalTest::fullText, RefusalTest::cleared, RefusalTest::tooMuchToWrite};
        for (int state = 0; state < states.length; state++) {
            Run untouched = new Run();
            states[state].on(untouched);
            String want = tell(untouched);
            int thrown = 0;
            for (int call = 0; call < calls.size(); call++) {
                Run x = new Run();
                states[state].on(x);
                if (throwsIn(x, calls.get(call))) {
                    thrown++;
                    Check.due("in state " + state + ", behind the call " + call + " that throws, all", tell(x), want);
                }
            }
            Check.due("in state " + state + " many calls throw", thrown > 300 ? "yes" : "only " + thrown, "yes");
        }
    }

    private static boolean throwsIn(Run x, Calls call) {
        try {
            call.on(x);
            return false;
        } catch (RuntimeException e) {
            return true;
        }
    }

    private static List<Calls> everyCall() {
        List<Calls> calls = new ArrayList<>();
        for (int a : NUMBERS) {
            calls.add(x -> x.faultKind(a));
            calls.add(x -> x.faultPlace(a));
            calls.add(x -> x.tag(a));
            calls.add(x -> x.elements(a));
            calls.add(x -> x.item(a));
            calls.add(x -> x.pass(a));
            calls.add(x -> x.letter(a));
            for (int b : NUMBERS) {
                calls.add(x -> x.openLoop(a, b));
                calls.add(x -> x.addItem('B', a, b));
                calls.add(x -> x.addField(a, b));
                calls.add(x -> x.setCondition(a, b, 'x'));
                calls.add(x -> x.contentLength(a, b));
                calls.add(x -> x.content(a, b, 0));
                calls.add(x -> x.content(0, a, b));
            }
            for (char letter : LETTERS) {
                calls.add(x -> x.addRule(a, letter));
                calls.add(x -> x.setCondition(0, a, letter));
            }
        }
        for (char letter : LETTERS) {
            calls.add(x -> x.feed(letter));
            calls.add(x -> x.addItem(letter, 0, 1));
        }
        calls.add(x -> x.closeLoop());
        calls.add(x -> x.read());
        calls.add(x -> x.control());
        calls.add(x -> x.segments());
        calls.add(x -> x.write());
        calls.add(x -> x.feedWritten());
        return calls;
    }

    private static void openLoop(Run x) {
        x.addItem('A', 0, 2);
        x.addRule(0, 'X');
        Check.fed(x, "H+5'A'T+3+5'");
        x.read();
        Check.fed(x, "H+6'A+z'");
        x.openLoop(1, 2);
    }

    private static void openLoopWithItem(Run x) {
        openLoop(x);
        x.addItem('C', 1, 1);
        x.addRule(1, 'Y');
        x.addField(1, 0);
        x.setCondition(1, 1, 'q');
    }

    private static void fullSchema(Run x) {
        for (int item = 0; item < 10; item++) {
            x.addItem((char) ('A' + item % 3), 0, 1);
            x.addRule(item, 'X');
            for (int field = 0; field < 5; field++) {
                x.addField(item, 4 - field);
            }
            x.setCondition(item, 0, 'x');
        }
        Check.fed(x, "H+5'A+x'B+y'T+4+5'");
        x.read();
        x.write();
        Check.fed(x, "a'b");
        x.read();
        Check.fed(x, "H+6'A+x");
    }

    private static void fullText(Run x) {
        x.addItem('A', 0, 2);
        Check.fed(x, "H+5'A+?''T+3+5'");
        x.read();
        x.write();
        for (int times = 0; times < 30; times++) {
            x.feedWritten();
        }
    }

    private static void cleared(Run x) {
        openLoopWithItem(x);
        x.clear();
    }

    private static void tooMuchToWrite(Run x) {
        x.addItem('A', 0, 9);
        x.addRule(0, 'X');
        Check.fed(x, "H+5'A'T+3+5'");
        x.read();
        x.write();
        x.addRule(0, 'Y');
        x.addRule(0, 'Y');
        Check.fed(x, "H+6'A'A'A'A'A'A'A'T+9+6'");
        x.read();
    }

    /** All that an object answers, and all that it answers then when it is used further. */
    private static String tell(Run x) {
        List<String> told = new ArrayList<>();
        tellMessage(x, told);
        tellWritten(x, told);
        add(told, x, y -> "" + y.items());
        add(told, x, y -> "" + y.write());
        tellWritten(x, told);
        add(told, x, y -> "" + y.addField(0, 3));
        add(told, x, y -> "" + y.closeLoop());
        for (char letter : "C+q'T+4+6'".toCharArray()) {
            add(told, x, y -> "" + y.feed(letter));
        }
        add(told, x, y -> "" + y.read());
        add(told, x, y -> y.faultKind(0) + "@" + y.faultPlace(0));
        add(told, x, y -> "" + y.discard());
        tellMessage(x, told);
        add(told, x, y -> "" + y.write());
        tellWritten(x, told);
        add(told, x, y -> "" + y.addItem('C', 0, 1));
        add(told, x, y -> "" + y.addRule(0, 'Z'));
        add(told, x, y -> "" + y.addField(0, 0));
        return told.toString();
    }

    private static void tellMessage(Run x, List<String> told) {
        add(told, x, y -> "" + y.length());
        add(told, x, y -> y.faultKind(0) + "@" + y.faultPlace(0));
        add(told, x, y -> y.faultKind(1) + "@" + y.faultPlace(1));
        add(told, x, y -> "" + y.control());
        add(told, x, y -> Check.division(y));
        add(told, x, y -> y.elements(0) + Check.content(y, 0, 0));
    }

    private static void tellWritten(Run x, List<String> told) {
        add(told, x, y -> "" + y.written());
        for (int index = 0; index < 30; index++) {
            int number = index;
            add(told, x, y -> "" + y.letter(number));
        }
    }

    private static void add(List<String> told, Run x, Answer answer) {
        String text;
        try {
            text = answer.of(x);
        } catch (RuntimeException e) {
            text = "!" + e.getClass().getSimpleName();
        }
        told.add(text);
    }

    private static void argumentBeforeState() {
        Check.says("Terms", "If several exceptions apply, the one that is documented first is thrown.");
        Run items = new Run();
        for (int item = 0; item < 10; item++) {
            items.addItem('A', 0, 1);
        }
        Check.badState("addItem, as there are ten", () -> items.addItem('A', 0, 1));
        Check.badArgument("addItem of a wrong tag, as there are ten", () -> items.addItem('H', 0, 1));
        Check.badArgument("addItem of a wrong least, as there are ten", () -> items.addItem('A', -1, 1));
        Check.badArgument("addItem of a wrong most, as there are ten", () -> items.addItem('A', 0, 0));
        Check.badArgument("addItem of a least over most, as there are ten", () -> items.addItem('A', 2, 1));
        Run loop = new Run();
        loop.openLoop(0, 1);
        Check.badState("openLoop, as one is open", () -> loop.openLoop(0, 1));
        Check.badArgument("openLoop of a wrong least, as one is open", () -> loop.openLoop(10, 10));
        Check.badArgument("openLoop of a wrong most, as one is open", () -> loop.openLoop(0, 0));
        Check.badArgument("openLoop of a least over most, as one is open", () -> loop.openLoop(2, 1));
        Run text = new Run();
        Check.fed(text, "x".repeat(300));
        Check.badState("feed into a full text", () -> text.feed('x'));
        Check.badArgument("feed of 31 into a full text", () -> text.feed((char) 31));
        Check.badArgument("feed of 127 into a full text", () -> text.feed((char) 127));
    }

    private static void stateBeforeIndex() {
        Run x = new Run();
        for (int number : new int[] {-1, 0, 20, Integer.MIN_VALUE, Integer.MAX_VALUE}) {
            Check.badState("tag without a message", () -> x.tag(number));
            Check.badState("elements without a message", () -> x.elements(number));
            Check.badState("contentLength without a message", () -> x.contentLength(number, 0));
            Check.badState("contentLength without a message", () -> x.contentLength(0, number));
            Check.badState("content without a message", () -> x.content(number, 0, 0));
            Check.badState("content without a message", () -> x.content(0, number, 0));
            Check.badState("content without a message", () -> x.content(0, 0, number));
            Check.badState("item without a message", () -> x.item(number));
            Check.badState("pass without a message", () -> x.pass(number));
        }
        Check.accepts(x, "H+1'T+2+1'");
        Check.badIndex("tag with a message", () -> x.tag(0));
        Check.badIndex("content with a message", () -> x.content(0, 0, 0));
        x.clear();
        Check.badState("tag when it is forgotten", () -> x.tag(-1));
        Check.badState("content when it is forgotten", () -> x.content(-1, -1, -1));
    }

    private static void indexBeforeArgumentBeforeState() {
        Run x = new Run();
        x.addItem('A', 0, 1);
        Check.badIndex("addRule of no item, with a wrong tag", () -> x.addRule(1, 'H'));
        Check.badIndex("addField of no rule, with a wrong element", () -> x.addField(0, 5));
        Check.badIndex("setCondition of no rule, with a wrong element", () -> x.setCondition(0, 5, 'x'));
        Check.badIndex("setCondition of no rule, with a wrong letter", () -> x.setCondition(0, 0, (char) 31));
        for (int rule = 0; rule < 10; rule++) {
            x.addRule(0, 'B');
            for (int field = 0; field < 5; field++) {
                x.addField(rule, field);
            }
        }
        Check.badState("addRule, as there are ten", () -> x.addRule(0, 'B'));
        Check.badArgument("addRule of a wrong tag, as there are ten", () -> x.addRule(0, 'T'));
        Check.badIndex("addRule of no item, as there are ten", () -> x.addRule(1, 'B'));
        Check.badIndex("addRule of no item, with a wrong tag, as there are ten", () -> x.addRule(-1, 'T'));
        Check.badState("addField, as there are five", () -> x.addField(9, 0));
        Check.badArgument("addField of a wrong element, as there are five", () -> x.addField(9, -1));
        Check.badIndex("addField of no rule", () -> x.addField(10, 0));
        Check.badIndex("addField of no rule, with a wrong element", () -> x.addField(10, 5));
        Check.badArgument("setCondition of a wrong element", () -> x.setCondition(9, 5, 'x'));
        Check.badIndex("setCondition of no rule, with both wrong", () -> x.setCondition(10, 5, (char) 127));
    }
}
