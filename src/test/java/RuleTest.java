/** Terms, "Rules", and promises 21 to 23: addRule, addField, setCondition. */
final class RuleTest {
    private static final int[] WILD = {-1, -2, 10, 11, 20, Integer.MIN_VALUE, Integer.MAX_VALUE};

    public static void main(String[] args) {
        all();
        Check.end();
    }

    static void all() {
        rules();
        fields();
        conditions();
        addRule();
        itemOfRule();
        tagOfRule();
        tenRules();
        addField();
        ruleOfField();
        elementOfField();
        fiveFields();
        setCondition();
        ruleOfCondition();
        elementOfCondition();
        letterOfCondition();
    }

    /** An object with one item and some rules of it, with the tags B, C and so on. */
    private static Run ready(int rules) {
        Run x = new Run();
        x.addItem('A', 0, 9);
        for (int rule = 0; rule < rules; rule++) {
            x.addRule(0, "BCDEFGIJKL".charAt(rule));
        }
        return x;
    }

    private static void rules() {
        Check.says("Terms", "Rules. A rule belongs to an item; it has a tag, a list of fields, and perhaps a condition.");
        Run x = ready(2);
        x.addItem('B', 0, 9);
        x.addField(0, 0);
        x.setCondition(1, 0, 'y');
        x.addRule(1, 'Z');
        Check.accepts(x, Check.message(1, "A+x'A+y'B+x'"));
        Check.writes(x, "H+1'B+x'B+y'C'Z'T+6+1'");
        // Two items of the same tag: the rule belongs to the item, not to the tag.
        Run y = new Run();
        y.addItem('A', 1, 1);
        y.addItem('A', 0, 9);
        y.addRule(1, 'Q');
        y.addField(0, 0);
        Check.accepts(y, Check.message(1, "A+1'A+2'A+3'"));
        Check.writes(y, "H+1'Q+2'Q+3'T+4+1'");
    }

    private static void fields() {
        Check.says("Terms", "A field is the number of an element.");
        Run x = ready(1);
        x.addField(0, 4);
        x.addField(0, 0);
        x.addField(0, 2);
        Check.accepts(x, Check.message(1, "A+a+b+c+d+e'"));
        Check.writes(x, "H+1'B+e+a+c'T+3+1'");
    }

    private static void conditions() {
        Check.says("Terms", "The condition is an element and a letter: it holds for a segment that has this element, "
            + "with a content that begins with this letter.");
        Run x = ready(1);
        x.addField(0, 0);
        x.setCondition(0, 1, 'x');
        Check.accepts(x, Check.message(1, "A+1'A+2+'A+3+x'A+4+xyz'A+5+yx'A+6+X'A+x'A+7+?x'A+8+w'"));
        Check.writes(x, "H+1'B+3'B+4'B+7'T+5+1'");
        // Neither a plus sign, an apostrophe and a question mark nor the blank are other than letters.
        Run y = ready(4);
        y.setCondition(0, 0, '+');
        y.setCondition(1, 0, '\'');
        y.setCondition(2, 0, '?');
        y.setCondition(3, 0, ' ');
        Check.accepts(y, Check.message(1, "A+?+'A+?''A+??'A+ 'A+'A'"));
        Check.writes(y, "H+1'B'C'D'E'T+6+1'");
        // An element that a former segment at this place had is none of this one.
        Run z = ready(1);
        z.setCondition(0, 1, 'x');
        for (int number = 1; number <= 3; number++) {
            Check.accepts(z, Check.message(number, number == 1 ? "A+1+x'" : number == 2 ? "A+1+y'" : "A+1'"));
            Check.writes(z, number == 1 ? "H+1'B'T+3+1'" : "H+" + number + "'T+2+" + number + "'");
        }
    }

    private static void addRule() {
        Check.says("Promise 21", "Adds a rule without fields and without a condition.");
        Run x = ready(1);
        Check.accepts(x, Check.message(1, "A+x+y'A'"));
        Check.writes(x, "H+1'B'B'T+4+1'");
        x.addField(0, 0);
        x.setCondition(0, 0, 'z');
        x.addRule(0, 'C');
        Check.writes(x, "H+2'C'C'T+4+2'");
        // Nor has it those of a rule with its number that was removed.
        x.clear();
        x.addItem('A', 0, 9);
        x.addRule(0, 'B');
        Check.accepts(x, Check.message(2, "A+x+y'A'"));
        Check.writes(x, "H+3'B'B'T+4+3'");
        Check.due("its first field", x.addField(0, 0), 1);
        Check.says("Promise 21", "Returns its number, from 0.");
        Run y = ready(0);
        Check.due("the first rule", y.addRule(0, 'B'), 0);
        Check.due("the second rule", y.addRule(0, 'B'), 1);
        y.clear();
        y.addItem('A', 0, 9);
        y.addItem('B', 0, 9);
        Check.due("the first rule after clear", y.addRule(1, 'B'), 0);
        Check.due("the second rule after clear", y.addRule(0, 'B'), 1);
    }

    private static void itemOfRule() {
        Check.says("Promise 21", "`item`: the number of the item to which it belongs");
        Run x = new Run();
        x.addItem('A', 0, 9);
        x.openLoop(0, 9);
        x.addItem('B', 0, 9);
        x.addItem('C', 0, 9);
        x.closeLoop();
        x.addRule(2, 'E');
        x.addRule(0, 'F');
        x.addRule(1, 'G');
        Check.accepts(x, Check.message(1, Check.body("ABCB")));
        Check.writes(x, "H+1'F'G'E'G'T+6+1'");
        Check.says("Promise 21", "Throws `IndexOutOfBoundsException` if there is no such item");
        Run y = new Run();
        Check.badIndex("a rule of the item 0 if there is none", () -> y.addRule(0, 'A'));
        y.addItem('A', 0, 9);
        Check.due("a rule of the item 0", y.addRule(0, 'A'), 0);
        Check.badIndex("a rule of the item 1", () -> y.addRule(1, 'A'));
        y.openLoop(0, 1);
        y.addItem('B', 0, 9);
        Check.due("a rule of an item in an open loop", y.addRule(1, 'A'), 1);
        Check.badIndex("a rule of the item 2", () -> y.addRule(2, 'A'));
        for (int item : WILD) {
            Check.badIndex("a rule of the item " + item, () -> y.addRule(item, 'A'));
        }
        for (int item = 2; item < 10; item++) {
            y.addItem('C', 0, 9);
        }
        Check.due("a rule of the item 9", y.addRule(9, 'A'), 2);
        Check.badIndex("a rule of the item 10", () -> y.addRule(10, 'A'));
    }

    private static void tagOfRule() {
        Check.says("Promise 21", "`tag`: A to Z, but neither H nor T");
        for (char tag = 'A'; tag <= 'Z'; tag++) {
            char ruleTag = tag;
            Run x = ready(0);
            if (tag == 'H' || tag == 'T') {
                Check.badArgument("a rule " + tag, () -> x.addRule(0, ruleTag));
                continue;
            }
            Check.due("a rule " + tag, x.addRule(0, tag), 0);
            Check.accepts(x, Check.message(1, "A'"));
            Check.writes(x, "H+1'" + tag + "'T+3+1'");
        }
        Check.says("Promise 21", "Throws `IllegalArgumentException` if tag is not as told");
        Run y = ready(0);
        for (char tag : new char[] {'H', 'T', '@', '[', 'a', 'z', 'h', '1', ' ', 0, 193, 321, 65535}) {
            Check.badArgument("a rule of the tag " + (int) tag, () -> y.addRule(0, tag));
        }
        Check.due("the first one that is good", y.addRule(0, 'Z'), 0);
    }

    private static void tenRules() {
        Check.says("Promise 21", "Throws `IllegalStateException` if there are 10 rules");
        Run x = ready(9);
        Check.due("the tenth rule", x.addRule(0, 'L'), 9);
        Check.badState("one more rule", () -> x.addRule(0, 'M'));
        x.addItem('B', 0, 9);
        Check.badState("one more rule of another item", () -> x.addRule(1, 'M'));
        Check.accepts(x, Check.message(1, "A'"));
        Check.writes(x, "H+1'B'C'D'E'F'G'I'J'K'L'T+12+1'");
        x.clear();
        x.addItem('A', 0, 9);
        Check.due("a rule after clear", x.addRule(0, 'M'), 0);
    }

    private static void addField() {
        Check.says("Promise 22", "Adds a field at the end of the fields of a rule.");
        Run x = ready(2);
        x.addField(1, 1);
        x.addField(0, 0);
        x.addField(1, 0);
        x.addField(1, 1);
        Check.accepts(x, Check.message(1, "A+x+y'"));
        Check.writes(x, "H+1'B+x'C+y+x+y'T+4+1'");
        Check.says("Promise 22", "Returns how many fields it has then.");
        Run y = ready(2);
        for (int count = 1; count <= 5; count++) {
            Check.due("a field", y.addField(0, 5 - count), count);
        }
        Check.due("the first field of another rule", y.addField(1, 0), 1);
        Check.due("the same field again", y.addField(1, 0), 2);
    }

    private static void ruleOfField() {
        Check.says("Promise 22", "`rule`: its number");
        Run x = ready(3);
        x.addField(0, 0);
        x.addField(2, 1);
        Check.accepts(x, Check.message(1, "A+x+y'"));
        Check.writes(x, "H+1'B+x'C'D+y'T+5+1'");
        Check.says("Promise 22", "Throws `IndexOutOfBoundsException` if there is no such rule");
        Run y = ready(0);
        Check.badIndex("a field of the rule 0 if there is none", () -> y.addField(0, 0));
        y.addRule(0, 'B');
        Check.due("a field of the rule 0", y.addField(0, 0), 1);
        Check.badIndex("a field of the rule 1", () -> y.addField(1, 0));
        for (int rule : WILD) {
            Check.badIndex("a field of the rule " + rule, () -> y.addField(rule, 0));
        }
        Run full = ready(10);
        Check.due("a field of the rule 9", full.addField(9, 0), 1);
        Check.badIndex("a field of the rule 10", () -> full.addField(10, 0));
        full.clear();
        Check.badIndex("a field of a rule removed", () -> full.addField(0, 0));
    }

    private static void elementOfField() {
        Check.says("Promise 22", "`element`: 0 to 4");
        Run x = ready(1);
        for (int element = 0; element <= 4; element++) {
            Check.due("a field of the element " + element, x.addField(0, element), element + 1);
        }
        Check.accepts(x, Check.message(1, "A+a+b+c+d+e'"));
        Check.writes(x, "H+1'B+a+b+c+d+e'T+3+1'");
        Check.says("Promise 22", "Throws `IllegalArgumentException` if element is out of range");
        Run y = ready(1);
        Check.badArgument("a field of the element 5", () -> y.addField(0, 5));
        for (int element : WILD) {
            Check.badArgument("a field of the element " + element, () -> y.addField(0, element));
        }
        Check.due("the first field that is good", y.addField(0, 4), 1);
    }

    private static void fiveFields() {
        Check.says("Promise 22", "Throws `IllegalStateException` if it has 5 fields");
        Run x = ready(2);
        for (int field = 1; field <= 5; field++) {
            Check.due("a field", x.addField(0, 0), field);
        }
        Check.badState("the sixth field", () -> x.addField(0, 1));
        Check.due("a field of another rule", x.addField(1, 1), 1);
        Check.accepts(x, Check.message(1, "A+x+y'"));
        Check.writes(x, "H+1'B+x+x+x+x+x'C+y'T+4+1'");
    }

    private static void setCondition() {
        Check.says("Promise 23", "Sets the condition of a rule, in place of the one that it may have.");
        Run x = ready(2);
        Check.accepts(x, Check.message(1, "A+x'A+y'A+z+x'"));
        x.setCondition(0, 0, 'x');
        Check.writes(x, "H+1'B'C'C'C'T+6+1'");
        x.setCondition(0, 0, 'y');
        x.addField(0, 0);
        Check.writes(x, "H+2'C'B+y'C'C'T+6+2'");
        x.setCondition(0, 1, 'x');
        Check.writes(x, "H+3'C'C'B+z'C'T+6+3'");
        x.setCondition(0, 0, 'x');
        Check.writes(x, "H+4'B+x'C'C'C'T+6+4'");
    }

    private static void ruleOfCondition() {
        Check.says("Promise 23", "`rule`: its number");
        Run x = ready(3);
        x.setCondition(1, 0, 'x');
        Check.accepts(x, Check.message(1, "A+y'"));
        Check.writes(x, "H+1'B'D'T+4+1'");
        Check.says("Promise 23", "Throws `IndexOutOfBoundsException` if there is no such rule");
        Run y = ready(0);
        Check.badIndex("a condition of the rule 0 if there is none", () -> y.setCondition(0, 0, 'x'));
        y.addRule(0, 'B');
        y.setCondition(0, 0, 'x');
        Check.badIndex("a condition of the rule 1", () -> y.setCondition(1, 0, 'x'));
        for (int rule : WILD) {
            Check.badIndex("a condition of the rule " + rule, () -> y.setCondition(rule, 0, 'x'));
        }
        Run full = ready(10);
        full.setCondition(9, 0, 'x');
        Check.badIndex("a condition of the rule 10", () -> full.setCondition(10, 0, 'x'));
        full.clear();
        Check.badIndex("a condition of a rule removed", () -> full.setCondition(0, 0, 'x'));
    }

    private static void elementOfCondition() {
        Check.says("Promise 23", "`element`: 0 to 4");
        for (int element = 0; element <= 4; element++) {
            Run x = ready(1);
            x.setCondition(0, element, 'x');
            Check.accepts(x, Check.message(1, "A+" + "y+".repeat(element) + "x" + "+y".repeat(4 - element) + "'"));
            Check.writes(x, "H+1'B'T+3+1'");
            Check.accepts(x, Check.message(2, "A+" + "x+".repeat(element) + "y" + "+x".repeat(4 - element) + "'"));
            Check.writes(x, "H+2'T+2+2'");
        }
        Check.says("Promise 23", "Throws `IllegalArgumentException` if element or letter is out of range");
        Run y = ready(1);
        Check.badArgument("a condition of the element 5", () -> y.setCondition(0, 5, 'x'));
        for (int element : WILD) {
            Check.badArgument("a condition of the element " + element, () -> y.setCondition(0, element, 'x'));
        }
        for (char letter : new char[] {31, 127, 0, 128, 255, 288, 65535}) {
            Check.badArgument("a condition of the letter " + (int) letter, () -> y.setCondition(0, 0, letter));
        }
        Check.accepts(y, Check.message(1, "A'"));
        Check.writes(y, "H+1'B'T+3+1'");
        y.setCondition(0, 0, 'x');
        Check.badArgument("a wrong condition in place of a good one", () -> y.setCondition(0, 5, 'y'));
        Check.writes(y, "H+2'T+2+2'");
    }

    private static void letterOfCondition() {
        Check.says("Promise 23", "`letter`: the letter, 32 to 126");
        for (char letter = 32; letter <= 126; letter++) {
            Run x = ready(1);
            x.setCondition(0, 0, letter);
            Check.accepts(x, Check.message(1, "A+?" + letter + "y'"));
            Check.writes(x, "H+1'B'T+3+1'");
            Check.accepts(x, Check.message(2, "A+?" + (char) (letter == 126 ? 32 : letter + 1) + "?" + letter + "'"));
            Check.writes(x, "H+2'T+2+2'");
        }
        Run y = ready(1);
        Check.badArgument("the letter 31", () -> y.setCondition(0, 0, (char) 31));
        Check.badArgument("the letter 127", () -> y.setCondition(0, 0, (char) 127));
    }
}
