/** Promises 21 to 23: addRule, addField, setCondition. */
final class RuleTest {
    public static void main(String[] args) {
        addRule();
        addField();
        setCondition();
        conditions();
        Check.end();
    }

    private static void addRule() {
        Segmentry x = new Segmentry();
        Check.badIndex("addRule without items", () -> x.addRule(0, 'A'));
        x.addItem('A', 0, 9);
        x.openLoop(0, 1);
        x.addItem('B', 0, 9);
        int[] wrongItems = {-1, 2, 10, Integer.MIN_VALUE, Integer.MAX_VALUE};
        for (int item : wrongItems) {
            Check.badIndex("addRule of item " + item, () -> x.addRule(item, 'A'));
            Check.badIndex("addRule of item and tag, item " + item, () -> x.addRule(item, 'H'));
        }
        char[] wrongTags = {'H', 'T', 'a', '@', '[', (char) 0, (char) 65535};
        for (char tag : wrongTags) {
            Check.badArgument("addRule of tag " + (int) tag, () -> x.addRule(0, tag));
        }
        for (int rule = 0; rule < 10; rule++) {
            Check.due("addRule", x.addRule(rule % 2, rule == 0 ? 'Z' : 'A'), rule);
        }
        Check.badState("the rule 10", () -> x.addRule(0, 'A'));
        Check.badArgument("the rule 10 with a wrong tag", () -> x.addRule(0, 'T'));
        Check.badIndex("the rule 10 of no item", () -> x.addRule(2, 'T'));
        x.clear();
        x.addItem('C', 0, 1);
        Check.due("addRule after clear", x.addRule(0, 'C'), 0);
    }

    private static void addField() {
        Segmentry x = new Segmentry();
        Check.badIndex("addField without rules", () -> x.addField(0, 0));
        x.addItem('A', 0, 9);
        x.addRule(0, 'B');
        x.addRule(0, 'C');
        int[] wrongRules = {-1, 2, 10, Integer.MIN_VALUE, Integer.MAX_VALUE};
        for (int rule : wrongRules) {
            Check.badIndex("addField of rule " + rule, () -> x.addField(rule, 0));
            Check.badIndex("addField of rule and element, rule " + rule, () -> x.addField(rule, 5));
        }
        int[] wrongElements = {-1, 5, Integer.MIN_VALUE, Integer.MAX_VALUE};
        for (int element : wrongElements) {
            Check.badArgument("addField of element " + element, () -> x.addField(0, element));
        }
        for (int field = 1; field <= 5; field++) {
            Check.due("addField", x.addField(1, 5 - field), field);
        }
        Check.badState("the sixth field", () -> x.addField(1, 0));
        Check.badArgument("a wrong sixth field", () -> x.addField(1, 5));
        Check.due("addField of another rule", x.addField(0, 4), 1);
        Check.due("the same field again", x.addField(0, 4), 2);
        Check.read(x, Check.message(1, "A+1+2+3+4+5'"));
        x.write();
        Check.due("fields in their order", Check.written(x), "H+1'B+5+5'C+5+4+3+2+1'T+4+1'");
        x.clear();
        x.addItem('A', 0, 9);
        x.addRule(0, 'B');
        Check.due("a rule after clear has no fields", x.addField(0, 0), 1);
    }

    private static void setCondition() {
        Segmentry x = new Segmentry();
        Check.badIndex("setCondition without rules", () -> x.setCondition(0, 0, 'x'));
        x.addItem('A', 0, 9);
        x.addRule(0, 'B');
        int[] wrongRules = {-1, 1, 10, Integer.MIN_VALUE, Integer.MAX_VALUE};
        for (int rule : wrongRules) {
            Check.badIndex("setCondition of rule " + rule, () -> x.setCondition(rule, 0, 'x'));
            Check.badIndex("setCondition of all, rule " + rule, () -> x.setCondition(rule, 5, (char) 31));
        }
        int[] wrongElements = {-1, 5, Integer.MIN_VALUE, Integer.MAX_VALUE};
        for (int element : wrongElements) {
            Check.badArgument("setCondition of element " + element, () -> x.setCondition(0, element, 'x'));
        }
        char[] wrongLetters = {31, 127, 0, 65535};
        for (char letter : wrongLetters) {
            Check.badArgument("setCondition of letter " + (int) letter, () -> x.setCondition(0, 0, letter));
        }
        Check.read(x, Check.message(1, "A'"));
        x.write();
        Check.due("wrong conditions set none", Check.written(x), "H+1'B'T+3+1'");
        x.setCondition(0, 0, ' ');
        x.setCondition(0, 4, '~');
        Check.read(x, Check.message(2, "A+ '"));
        x.write();
        Check.due("the second condition replaced the first", Check.written(x), "H+2'T+2+2'");
        Check.read(x, Check.message(3, "A+++++~'"));
        x.write();
        Check.due("the second condition holds", Check.written(x), "H+3'B'T+3+3'");
        Check.badArgument("a wrong condition", () -> x.setCondition(0, 5, 'x'));
        x.write();
        Check.due("leaves the one before", Check.written(x), "H+4'B'T+3+4'");
        x.clear();
        x.addItem('A', 0, 9);
        x.addRule(0, 'B');
        Check.read(x, Check.message(4, "A'"));
        x.write();
        Check.due("a rule after clear has no condition", Check.written(x), "H+5'B'T+3+5'");
    }

    private static void conditions() {
        Segmentry x = new Segmentry();
        x.addItem('A', 0, 9);
        x.addRule(0, 'B');
        x.addField(0, 0);
        x.setCondition(0, 1, 'x');
        Check.read(x, Check.message(1, "A+1'A+2+'A+3+x'A+4+xyz'A+5+yx'A+6+X'A+x'A+7+?x'"));
        x.write();
        Check.due("segments for which the condition holds", Check.written(x), "H+1'B+3'B+4'B+7'T+5+1'");
        x.setCondition(0, 1, '+');
        Check.read(x, Check.message(2, "A+1+?+'A+2++'"));
        x.write();
        Check.due("a condition on a plus sign", Check.written(x), "H+2'B+1'T+3+2'");
        x.setCondition(0, 1, ' ');
        Check.read(x, Check.message(3, "A'A+1'A+1+'A+1++ 'A+2+ '"));
        x.write();
        Check.due("a condition on a blank", Check.written(x), "H+3'B+2'T+3+3'");
        // An element that a former segment had is none of this one.
        x.setCondition(0, 1, 'x');
        Check.read(x, Check.message(4, "A+1+x'"));
        Check.read(x, Check.message(5, "A+1+y'"));
        Check.read(x, Check.message(6, "A+1'"));
        x.write();
        Check.due("a condition on an element that is gone", Check.written(x), "H+4'T+2+4'");
    }
}
