/** What it is, Terms, "Writing", and promises 24 to 27: write, written, letter, feedWritten. */
final class WriteTest {
    private static final int[] WILD = {-1, -2, 300, 301, 1000, Integer.MIN_VALUE, Integer.MAX_VALUE};

    public static void main(String[] args) {
        all();
        Check.end();
    }

    static void all() {
        whole();
        readAgain();
        segmentsByRules();
        elementsByFields();
        headerAndTrailer();
        digits();
        released();
        mostCalls();
        write();
        writeReturns();
        withoutMessage();
        mostSegments();
        mostLetters();
        numberThatIsTooLong();
        mostMessages();
        written();
        letter();
        noSuchLetter();
        feedWritten();
        feedWrittenReturns();
        feedWrittenTooMuch();
    }

    /** An object with an item A and one rule of it, which writes all that a segment has. */
    private static Run copying() {
        Run x = new Run();
        x.addItem('A', 0, 9);
        x.addRule(0, 'A');
        for (int element = 0; element < 5; element++) {
            x.addField(0, element);
        }
        return x;
    }

    private static void whole() {
        Check.says("What it is", "A translator of business messages that consist of segments, as in EDIFACT: it reads a message "
            + "from text, checks its envelope and its control number, matches its body against a schema with loops, tells each "
            + "fault by its place, maps segments by rules with conditions, and writes the result as a message of its own.");
        Run x = new Run();
        x.addItem('A', 1, 2);
        x.openLoop(0, 3);
        x.addItem('B', 1, 9);
        x.closeLoop();
        x.addRule(1, 'L');
        x.addField(0, 1);
        x.addField(0, 0);
        x.setCondition(0, 0, 'x');
        Check.due("a wrong envelope", Check.read(x, "A'B+x1+cup'B+y2'"), "6@0 7@11");
        Check.due("a wrong control number", Check.read(x, "H+7'A'B+x1+cup'B+y2'T+5+8'"), "9@20");
        Check.due("a body that does not match", Check.read(x, "H+7'B+x1+cup'B+y2'T+4+7'"), "11@4");
        Check.accepts(x, "H+7'A'B+x1+cup'B+y2'T+5+7'");
        Check.due("its division", Check.division(x), "A00,B11,B11");
        Check.writes(x, "H+1'L+cup+x1'T+3+1'");
    }

    private static void readAgain() {
        Check.says("Terms", "A message that was written can be read again. The calls set the schema and the rules, "
            + "feed in text letter by letter, and ask for segments, faults and the text that was written.");
        Run x = copying();
        Check.accepts(x, Check.message(0, "A+?+?'??+x'A'"));
        for (int number = 1; number <= 12; number++) {
            x.write();
            x.feedWritten();
            Check.due("read of what was written", x.read(), 0);
            Check.due("its number", x.control(), number);
            Check.due("its segments", x.segments(), 2);
            Check.due("its elements", x.elements(1), 5);
            Check.due("its content", Check.content(x, 0, 0), "+'?");
            Check.due("its second content", Check.content(x, 0, 1), "x");
            Check.due("its empty content", x.contentLength(1, 4), 0);
        }
    }

    private static void segmentsByRules() {
        Check.says("Terms", "Writing. For each segment of the body of the accepted message, in order, and for each rule of its "
            + "item, in the order of the rules, whose condition holds or that has none, a segment is written with the tag "
            + "of the rule,");
        Run x = new Run();
        x.addItem('A', 0, 9);
        x.openLoop(0, 9);
        x.addItem('B', 0, 9);
        x.closeLoop();
        x.addRule(1, 'M');
        x.addRule(0, 'N');
        x.addRule(1, 'O');
        x.addRule(0, 'P');
        x.addField(2, 0);
        Check.accepts(x, Check.message(1, "A'A'B+1'B+2'"));
        Check.writes(x, "H+1'N'P'N'P'M'O+1'M'O+2'T+10+1'");
        x.addRule(0, 'Q');
        Check.writes(x, "H+2'N'P'Q'N'P'Q'M'O+1'M'O+2'T+12+2'");
        x.setCondition(2, 0, '2');
        x.setCondition(3, 0, '2');
        Check.writes(x, "H+3'N'Q'N'Q'M'M'O+2'T+9+3'");
        Run y = new Run();
        y.addItem('A', 0, 9);
        Check.accepts(y, Check.message(1, "A+x'A'"));
        Check.writes(y, "H+1'T+2+1'");
        Check.accepts(y, Check.message(2, ""));
        Check.writes(y, "H+2'T+2+2'");
    }

    private static void elementsByFields() {
        Check.says("Terms", "and for each field an element with the content of that element of the segment, or without content "
            + "if the segment does not have it.");
        Run x = new Run();
        x.addItem('A', 0, 9);
        x.addItem('B', 0, 9);
        x.addRule(0, 'X');
        x.addField(0, 1);
        x.addField(0, 0);
        Check.accepts(x, Check.message(7, "A+1+2'A+3'A'A++5'A+6+'B+4'"));
        Check.writes(x, "H+1'X+2+1'X++3'X++'X+5+'X++6'T+7+1'");
        // What a former message had at this place is not written.
        Check.accepts(x, Check.message(8, "A'A+12345678'"));
        Check.writes(x, "H+2'X++'X++12345678'T+4+2'");
    }

    private static void headerAndTrailer() {
        Check.says("Terms", "Before these comes a header H with the next written control number, which is 1 for the first message "
            + "that is written, and behind them a trailer T with the number of segments, header and trailer included, and "
            + "the same control number.");
        Run x = new Run();
        x.addItem('A', 0, 9);
        x.addItem('B', 0, 9);
        x.addRule(0, 'X');
        Check.accepts(x, Check.message(5000, "A'A'B'"));
        Check.writes(x, "H+1'X'X'T+4+1'");
        Check.writes(x, "H+2'X'X'T+4+2'");
        Check.accepts(x, Check.message(5001, ""));
        Check.writes(x, "H+3'T+2+3'");
        x.clear();
        Check.accepts(x, Check.message(5002, ""));
        Check.badIndex("a letter that is not there", () -> x.letter(10));
        Check.writes(x, "H+4'T+2+4'");
        x.clear();
        Check.badState("write without a message", () -> x.write());
        Check.accepts(x, Check.message(5003, ""));
        Check.writes(x, "H+5'T+2+5'");
    }

    private static void digits() {
        Check.says("Terms", "Numbers are written without leading zeros.");
        Run x = new Run();
        Check.accepts(x, "H+0007'T+0002+007'");
        for (int number = 1; number <= 101; number++) {
            String want = "H+" + number + "'T+2+" + number + "'";
            Check.due("write " + number, x.write(), want.length());
            if (number == 1 || number % 10 == 9 || number % 10 == 0 || number > 99) {
                Check.due("the message " + number, Check.written(x), want);
            }
        }
        Run y = new Run();
        y.addItem('A', 0, 9);
        y.addRule(0, 'B');
        y.addRule(0, 'C');
        int control = 0;
        for (int count : new int[] {0, 3, 4, 9}) {
            control++;
            Check.accepts(y, Check.message(control, "A'".repeat(count)));
            Check.writes(y, "H+" + control + "'" + "B'C'".repeat(count) + "T+" + (2 * count + 2) + "+" + control + "'");
        }
    }

    private static void released() {
        Check.says("Terms", "In a content, each plus sign, apostrophe and question mark is written with a question mark before it.");
        Run x = new Run();
        x.addItem('A', 0, 9);
        x.addRule(0, 'Z');
        x.addField(0, 0);
        x.addField(0, 4);
        x.addField(0, 3);
        Check.accepts(x, Check.message(1, "?A+?+?'??a?b++++ x?'y~'"));
        Check.writes(x, "H+1'Z+?+?'??ab+ x?'y~+'T+3+1'");
        for (char letter = 32; letter <= 126; letter++) {
            Run y = copying();
            Check.accepts(y, Check.message(1, "A+?" + letter + "'"));
            boolean special = letter == '+' || letter == '\'' || letter == '?';
            Check.writes(y, "H+1'A+" + (special ? "?" : "") + letter + "++++'T+3+1'");
        }
    }

    private static void mostCalls() {
        Check.says("What it is", "An object is used for at most 512 calls after it has been made; what later calls answer is free.");
        Run x = new Run();
        Check.fed(x, "H+1'T+2+1'");
        Check.due("read, the call 11", x.read(), 0);
        for (int number = 1; number <= 500; number++) {
            int digits = number < 10 ? 1 : number < 100 ? 2 : 3;
            Check.due("write " + number, x.write(), 8 + 2 * digits);
        }
        Check.due("written, the call 512", x.written(), 14);
        Check.due("calls", x.calls(), 512);
        Run y = new Run();
        for (int number = 0; number < 511; number++) {
            y.clear();
        }
        Check.due("addItem, the call 512", y.addItem('A', 0, 1), 0);
    }

    private static void write() {
        Check.says("Promise 24", "Writes a message from the accepted one; it replaces what was written before.");
        Run x = copying();
        Check.accepts(x, Check.message(1, "A+x'"));
        Check.writes(x, "H+1'A+x++++'T+3+1'");
        Check.accepts(x, Check.message(2, ""));
        Check.due("a message that is accepted is not written yet", x.written(), 18);
        Check.writes(x, "H+2'T+2+2'");
        Check.badIndex("a letter of the longer one before", () -> x.letter(10));
        Check.due("a faulty message", Check.read(x, "H+3'A+y'T+4+3'"), "8@8");
        Check.writes(x, "H+3'T+2+3'");
        x.openLoop(0, 1);
        Check.writes(x, "H+4'T+2+4'");
        Check.due("write leaves the text", x.length(), 0);
        x.feed('H');
        x.write();
        Check.due("write leaves the text, too", x.length(), 1);
    }

    private static void writeReturns() {
        Check.says("Promise 24", "Returns its length.");
        Run x = copying();
        Check.accepts(x, Check.message(1, ""));
        Check.due("write without a body", x.write(), 10);
        Check.accepts(x, Check.message(2, "A'"));
        Check.due("write of one segment", x.write(), 17);
        Check.accepts(x, Check.message(3, "A+?++xy'"));
        Check.due("write of released letters", x.write(), 21);
        Check.due("written then", x.written(), 21);
    }

    private static void withoutMessage() {
        Check.says("Promise 24", "Throws `IllegalStateException` if there is no accepted message,");
        Run x = new Run();
        Check.badState("write at first", () -> x.write());
        Check.due("a faulty message", Check.read(x, "H+1'T+3+1'"), "8@4");
        Check.badState("write after a fault", () -> x.write());
        Check.accepts(x, "H+1'T+2+1'");
        Check.writes(x, "H+1'T+2+1'");
        x.clear();
        Check.badState("write after clear", () -> x.write());
        Check.due("what was written stays", Check.written(x), "H+1'T+2+1'");
        Check.accepts(x, "H+2'T+2+2'");
        Check.writes(x, "H+2'T+2+2'");
    }

    private static void mostSegments() {
        Check.says("Promise 24", "or what would be written has more than 20 segments");
        Run x = new Run();
        x.addItem('A', 0, 9);
        x.addItem('B', 0, 9);
        x.addRule(0, 'X');
        x.addRule(0, 'Y');
        x.addRule(1, 'Z');
        Check.accepts(x, Check.message(1, Check.body("AAAAAAAAA")));
        String written = "H+1'" + "X'Y'".repeat(9) + "T+20+1'";
        Check.writes(x, written);
        Check.accepts(x, Check.message(2, Check.body("AAAAAAAAAB")));
        Check.badState("write of 21 segments", () -> x.write());
        Check.due("what was written before stays", Check.written(x), written);
        Check.accepts(x, Check.message(3, Check.body("AAAAAAAAB")));
        Check.writes(x, "H+2'" + "X'Y'".repeat(8) + "Z'T+19+2'");
        // As many segments as rules can make: ten of each of the 18, whose letters alone are too many.
        Run y = new Run();
        y.addItem('A', 9, 9);
        y.addItem('A', 9, 9);
        Check.accepts(y, Check.message(1, Check.body("A".repeat(18))));
        for (int rule = 0; rule < 10; rule++) {
            y.addRule(rule % 2, 'W');
        }
        Check.badState("write of 92 segments", () -> y.write());
        y.clear();
        y.addItem('A', 1, 1);
        for (int rule = 0; rule < 10; rule++) {
            y.addRule(0, 'W');
        }
        Check.accepts(y, Check.message(2, "A'"));
        Check.writes(y, "H+1'" + "W'".repeat(10) + "T+12+1'");
    }

    /** An object that would write 300 letters, of which the last but six are those of a segment L without elements. */
    private static Run full() {
        Run x = new Run();
        x.addItem('A', 0, 9);
        x.addItem('B', 0, 9);
        x.addRule(0, 'K');
        for (int field = 0; field < 5; field++) {
            x.addField(0, 0);
        }
        x.addRule(1, 'L');
        Check.accepts(x, Check.message(1, ("A+" + "?+".repeat(8) + "'").repeat(3) + "A+1234'B'"));
        return x;
    }

    private static String fullMessage(int number) {
        String longest = "K" + ("+" + "?+".repeat(8)).repeat(5) + "'";
        return "H+" + number + "'" + longest.repeat(3) + "K" + "+1234".repeat(5) + "'L'T+7+" + number + "'";
    }

    private static void mostLetters() {
        Check.says("Promise 24", "or more than 300 letters,");
        Run x = full();
        Check.due("length that is due", fullMessage(1).length(), 300);
        Check.writes(x, fullMessage(1));
        x.addField(1, 0);
        Check.badState("write of 301 letters", () -> x.write());
        Check.due("what was written before stays", x.written(), 300);
        Check.due("its last letter", x.letter(299), '\'');
        Check.due("its last letter but seven", x.letter(292), 'L');
        Check.accepts(x, Check.message(2, "B+x'"));
        Check.due("a shorter one", x.write(), 14);
        Check.due("has the next number", Check.written(x), "H+2'L+x'T+3+2'");
        // Far too many letters, with few segments.
        Run y = full();
        for (int field = 0; field < 5; field++) {
            y.addRule(0, 'M');
            for (int element = 0; element < 5; element++) {
                y.addField(2 + field, 0);
            }
            Check.badState("write of still more letters", () -> y.write());
        }
        Check.due("written then", y.written(), 0);
    }

    private static void numberThatIsTooLong() {
        Run x = full();
        for (int number = 1; number <= 9; number++) {
            Check.due("write of 300 letters", x.write(), 300);
        }
        Check.badState("write of 302 letters, as the number has two digits", () -> x.write());
        Check.badState("write of 302 letters again", () -> x.write());
        Check.due("what was written last has the number 9", x.letter(2), '9');
        Check.due("the first letter of its header", x.letter(0), 'H');
        Check.accepts(x, Check.message(2, ""));
        Check.writes(x, "H+10'T+2+10'");
    }

    private static void mostMessages() {
        Check.says("Promise 24", "or 9999 messages were written");
        Run x = new Run();
        Check.accepts(x, "H+1'T+2+1'");
        for (int number = 1; number <= 480; number++) {
            int digits = number < 10 ? 1 : number < 100 ? 2 : 3;
            Check.due("write " + number, x.write(), 8 + 2 * digits);
        }
        Check.due("the message 480", Check.written(x), "H+480'T+2+480'");
        Run y = new Run();
        Check.accepts(y, "H+1'T+2+1'");
        y.setWritten(9997);
        Check.writes(y, "H+9998'T+2+9998'");
        Check.writes(y, "H+9999'T+2+9999'");
        Check.badState("the message 10000", () -> y.write());
        Check.badState("the message 10000 again", () -> y.write());
        Check.due("what was written stays", Check.written(y), "H+9999'T+2+9999'");
    }

    private static void written() {
        Check.says("Promise 25", "Returns the length of the message that was written last; 0 if none was written.");
        Run x = copying();
        Check.due("written at first", x.written(), 0);
        Check.accepts(x, Check.message(1, "A'"));
        Check.due("written before writing", x.written(), 0);
        x.write();
        Check.due("written", x.written(), 17);
        x.feedWritten();
        x.discard();
        Check.due("written after feedWritten", x.written(), 17);
        Check.accepts(x, Check.message(2, ""));
        Check.due("written before the next one", x.written(), 17);
        x.write();
        Check.due("written of the next one", x.written(), 10);
        x.clear();
        Check.due("written after clear", x.written(), 10);
        Check.badState("write without a message", () -> x.write());
        Check.due("written after a write that throws", x.written(), 10);
        Run y = full();
        y.write();
        Check.due("written of 300 letters", y.written(), 300);
    }

    private static void letter() {
        Check.says("Promise 26", "Returns a letter of the message that was written last.");
        Run x = new Run();
        x.addItem('A', 0, 9);
        x.addRule(0, 'Z');
        x.addField(0, 0);
        Check.accepts(x, Check.message(1, "A+ ~'"));
        x.write();
        Check.due("the letters", Check.written(x), "H+1'Z+ ~'T+3+1'");
        Check.says("Promise 26", "`index`: 0 for the first letter");
        Check.due("letter 0", x.letter(0), 'H');
        Check.due("letter 1", x.letter(1), '+');
        Check.due("letter 14", x.letter(14), '\'');
        Check.says("Promise 26", "Returns the letter.");
        Check.due("letter 4", x.letter(4), 'Z');
        Check.due("letter 6", x.letter(6), ' ');
        Check.due("letter 7", x.letter(7), '~');
        x.write();
        Check.due("letter of the next one", x.letter(2), '2');
    }

    private static void noSuchLetter() {
        Check.says("Promise 26", "Throws `IndexOutOfBoundsException` if there is no such letter");
        Run x = new Run();
        Check.badIndex("letter 0 if none was written", () -> x.letter(0));
        Check.accepts(x, "H+1'T+2+1'");
        Check.badIndex("letter 0 before writing", () -> x.letter(0));
        x.write();
        Check.due("the last letter", x.letter(9), '\'');
        Check.badIndex("the letter behind it", () -> x.letter(10));
        for (int index : WILD) {
            Check.badIndex("letter " + index, () -> x.letter(index));
        }
        Run y = full();
        y.write();
        Check.due("the last letter of 300", y.letter(299), '\'');
        Check.badIndex("the letter 300", () -> y.letter(300));
        Check.accepts(y, Check.message(2, ""));
        y.write();
        Check.badIndex("a letter of the message before", () -> y.letter(10));
    }

    private static void feedWritten() {
        Check.says("Promise 27", "Appends the message that was written last to the text.");
        Run x = copying();
        Check.fed(x, "abc");
        Check.due("feedWritten of nothing", x.feedWritten(), 3);
        x.discard();
        Check.accepts(x, Check.message(0, "A+?+x'"));
        x.write();
        Check.fed(x, "?");
        x.feedWritten();
        Check.due("read behind a question mark, which releases the H", x.read(), 0);
        Check.due("its content", Check.content(x, 0, 0), "+x");
        x.write();
        Check.due("feedWritten of the next one", x.feedWritten(), 20);
        Check.due("read of the next one", Check.read(x, "x"), "1@20");
        x.feedWritten();
        Check.due("read of the next one alone", x.read(), 0);
        Check.due("its number", x.control(), 2);
        Check.due("what was written stays", Check.written(x), "H+2'A+?+x++++'T+3+2'");
    }

    private static void feedWrittenReturns() {
        Check.says("Promise 27", "Returns the length of the text then.");
        Run x = new Run();
        Check.due("feedWritten at first", x.feedWritten(), 0);
        Check.accepts(x, "H+1'T+2+1'");
        x.write();
        Check.due("feedWritten", x.feedWritten(), 10);
        Check.due("length then", x.length(), 10);
        x.feed('x');
        Check.due("feedWritten behind letters", x.feedWritten(), 21);
        x.discard();
        Check.due("feedWritten after discard", x.feedWritten(), 10);
    }

    private static void feedWrittenTooMuch() {
        Check.says("Promise 27", "Throws `IllegalStateException` if the text would have more than 300 letters");
        Run x = new Run();
        Check.accepts(x, "H+1'T+2+1'");
        x.write();
        for (int times = 1; times <= 30; times++) {
            Check.due("feedWritten", x.feedWritten(), 10 * times);
        }
        Check.badState("feedWritten into a full text", () -> x.feedWritten());
        Check.due("length of a full text", x.discard(), 300);
        for (int times = 1; times <= 29; times++) {
            x.feedWritten();
        }
        x.feed('x');
        Check.badState("feedWritten behind 291 letters", () -> x.feedWritten());
        Check.due("length then", x.discard(), 291);
        Check.fed(x, "x".repeat(290));
        Check.due("feedWritten behind 290 letters", x.feedWritten(), 300);
        Run y = full();
        y.write();
        y.feed('x');
        Check.badState("feedWritten of 300 letters behind one", () -> y.feedWritten());
        y.discard();
        Check.due("feedWritten of 300 letters", y.feedWritten(), 300);
        Check.badState("feedWritten of 300 letters again", () -> y.feedWritten());
        // Nothing is appended if none was written, even to a full text.
        Run z = new Run();
        Check.fed(z, "x".repeat(300));
        Check.due("feedWritten of nothing into a full text", z.feedWritten(), 300);
    }
}
