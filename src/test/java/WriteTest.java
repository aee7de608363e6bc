/** Promises 24 to 27: write, written, letter, feedWritten. */
final class WriteTest {
    public static void main(String[] args) {
        write();
        ruleOrder();
        released();
        segmentLimit();
        letterLimit();
        controlNumbers();
        mostMessages();
        letters();
        feedWritten();
        readAgain();
        Check.end();
    }

    private static void write() {
        Segmentry x = new Segmentry();
        Check.badState("write of a new object", () -> x.write());
        x.addItem('A', 0, 9);
        x.addItem('B', 0, 9);
        Check.badState("write without a message", () -> x.write());
        x.addRule(0, 'X');
        x.addField(0, 1);
        x.addField(0, 0);
        Check.read(x, Check.message(7, "A+1+2'A+3'A'B+4'"));
        Check.due("write", x.write(), 25);
        Check.due("what is written", Check.written(x), "H+1'X+2+1'X++3'X++'T+5+1'");
    }

    private static void ruleOrder() {
        Segmentry x = new Segmentry();
        x.addItem('A', 0, 9);
        x.openLoop(0, 9);
        x.addItem('B', 0, 9);
        x.closeLoop();
        x.addRule(1, 'M');
        x.addRule(0, 'N');
        x.addRule(1, 'O');
        x.addRule(0, 'P');
        x.addField(2, 0);
        Check.read(x, Check.message(1, "A'A'B+1'B+2'"));
        x.write();
        Check.due("by segments, then by rules", Check.written(x), "H+1'N'P'N'P'M'O+1'M'O+2'T+10+1'");
        x.addRule(0, 'Q');
        x.write();
        Check.due("with a rule that came later", Check.written(x), "H+2'N'P'Q'N'P'Q'M'O+1'M'O+2'T+12+2'");
        x.openLoop(0, 1);
        x.write();
        Check.due("with an open loop", Check.written(x), "H+3'N'P'Q'N'P'Q'M'O+1'M'O+2'T+12+3'");
        Segmentry y = new Segmentry();
        y.addItem('A', 0, 9);
        Check.read(y, Check.message(1, "A+x'"));
        y.write();
        Check.due("without rules", Check.written(y), "H+1'T+2+1'");
    }

    private static void released() {
        Segmentry x = new Segmentry();
        x.addItem('A', 0, 9);
        x.addRule(0, 'Z');
        x.addField(0, 0);
        x.addField(0, 4);
        x.addField(0, 3);
        Check.read(x, Check.message(1, "?A+?+?'??a?b++++ x?'y~'"));
        x.write();
        Check.due("released letters", Check.written(x), "H+1'Z+?+?'??ab+ x?'y~+'T+3+1'");
    }

    private static void segmentLimit() {
        Segmentry x = new Segmentry();
        x.addItem('A', 0, 9);
        x.addItem('B', 0, 9);
        x.addRule(0, 'X');
        x.addRule(0, 'Y');
        Check.read(x, Check.message(1, Check.body("AAAAAAAAA")));
        x.write();
        String written = "H+1'" + Check.repeat("X'Y'", 9) + "T+20+1'";
        Check.due("20 segments", Check.written(x), written);
        x.addRule(1, 'Z');
        Check.read(x, Check.message(2, Check.body("AAAAAAAAAB")));
        Check.badState("write of 21 segments", () -> x.write());
        Check.due("what was written before stays", Check.written(x), written);
        Check.read(x, Check.message(3, Check.body("AAAAAAAAB")));
        x.write();
        Check.due("the next number was not used", Check.written(x), "H+2'" + Check.repeat("X'Y'", 8) + "Z'T+19+2'");
        // As many segments as rules can make: ten of each of the 18.
        for (int rule = 3; rule < 10; rule++) {
            x.addRule(0, 'W');
        }
        Check.read(x, Check.message(4, Check.body("AAAAAAAAABBBBBBBBB")));
        Check.badState("write of 92 segments", () -> x.write());
        Check.read(x, Check.message(5, "A'"));
        x.write();
        Check.due("a lesser one", Check.written(x), "H+3'X'Y'" + Check.repeat("W'", 7) + "T+11+3'");
    }

    private static void letterLimit() {
        Segmentry x = new Segmentry();
        x.addItem('A', 0, 9);
        x.addItem('B', 0, 9);
        x.addRule(0, 'A');
        for (int element = 0; element < 5; element++) {
            x.addField(0, element);
        }
        x.addRule(1, 'B');
        String longest = "A" + Check.repeat("+" + Check.repeat("?+", 8), 5) + "'";
        String text = Check.message(1, longest + longest + longest + "A+12345678+12345678+1234++'B'");
        Check.due("length of the text", text.length(), 300);
        Check.due("a message of 300 letters", Check.read(x, text), "");
        Check.due("write of 300 letters", x.write(), 300);
        Check.due("the same as what was read", Check.written(x), text);
        Check.due("feedWritten of 300 letters", x.feedWritten(), 300);
        x.discard();
        x.addField(1, 0);
        Check.badState("write of 301 letters", () -> x.write());
        Check.due("what was written before stays", Check.written(x), text);
        Check.read(x, Check.message(2, "B+x'"));
        Check.due("a shorter one", x.write(), 14);
        Check.due("has the next number", Check.written(x), "H+2'B+x'T+3+2'");
    }

    private static void controlNumbers() {
        Segmentry x = new Segmentry();
        Check.read(x, "H+5000'T+2+5000'");
        for (int number = 1; number <= 120; number++) {
            String want = "H+" + number + "'T+2+" + number + "'";
            Check.due("write " + number, x.write(), want.length());
            boolean isEdge = number == 9 || number == 10 || number == 99 || number == 100 || number == 109;
            if (isEdge) {
                Check.due("the message " + number, Check.written(x), want);
            }
        }
    }

    /** No object is promised to answer so many calls, but the limit that the document names stands. */
    private static void mostMessages() {
        Segmentry x = new Segmentry();
        Check.read(x, "H+1'T+2+1'");
        for (int number = 1; number < 9999; number++) {
            x.write();
        }
        Check.due("the message 9998", Check.written(x), "H+9998'T+2+9998'");
        x.write();
        Check.due("the message 9999", Check.written(x), "H+9999'T+2+9999'");
        Check.badState("the message 10000", () -> x.write());
        Check.due("what is written then", Check.written(x), "H+9999'T+2+9999'");
    }

    private static void letters() {
        Segmentry x = new Segmentry();
        Check.due("written of a new object", x.written(), 0);
        Check.badIndex("letter of a new object", () -> x.letter(0));
        Check.read(x, "H+1'T+2+1'");
        Check.due("written before writing", x.written(), 0);
        x.write();
        Check.due("written", x.written(), 10);
        Check.due("the first letter", x.letter(0), 'H');
        Check.due("the last letter", x.letter(9), '\'');
        int[] wrong = {-1, 10, 300, Integer.MIN_VALUE, Integer.MAX_VALUE};
        for (int index : wrong) {
            Check.badIndex("letter " + index, () -> x.letter(index));
        }
        x.clear();
        Check.due("written after clear", x.written(), 10);
        Check.badState("write after clear", () -> x.write());
        Check.due("written after a write that fails", x.written(), 10);
        Check.due("its letters", Check.written(x), "H+1'T+2+1'");
    }

    private static void feedWritten() {
        Segmentry x = new Segmentry();
        Check.due("feedWritten of a new object", x.feedWritten(), 0);
        Check.fed(x, "abc");
        Check.due("feedWritten of nothing", x.feedWritten(), 3);
        x.discard();
        Check.read(x, "H+1'T+2+1'");
        x.write();
        for (int times = 1; times <= 30; times++) {
            Check.due("feedWritten", x.feedWritten(), 10 * times);
        }
        Check.badState("feedWritten into a full text", () -> x.feedWritten());
        Check.due("length of a full text", x.length(), 300);
        Check.due("discard of it", x.discard(), 300);
        Check.fed(x, Check.repeat("x", 291));
        Check.badState("feedWritten behind 291 letters", () -> x.feedWritten());
        Check.due("length then", x.length(), 291);
        x.discard();
        Check.fed(x, Check.repeat("x", 290));
        Check.due("feedWritten behind 290 letters", x.feedWritten(), 300);
        x.discard();
        Check.fed(x, "?");
        Check.due("feedWritten behind a question mark", x.feedWritten(), 11);
        Check.due("which releases the H", x.read(), 1);
        Check.due("that is out of sequence", x.faultKind(0), 10);
        Check.due("what is written stays", x.written(), 10);
    }

    private static void readAgain() {
        Segmentry x = new Segmentry();
        x.addItem('A', 0, 9);
        x.addRule(0, 'A');
        for (int element = 0; element < 5; element++) {
            x.addField(0, element);
        }
        Check.read(x, Check.message(0, "A+?+?'??+x'A'"));
        for (int number = 1; number <= 12; number++) {
            x.write();
            x.feedWritten();
            Check.due("read of what was written", x.read(), 0);
            Check.due("its number", x.control(), number);
            Check.due("its segments", x.segments(), 2);
            Check.due("its elements", x.elements(1), 5);
            Check.due("its content", Check.content(x, 0, 0), "+'?");
        }
    }
}
