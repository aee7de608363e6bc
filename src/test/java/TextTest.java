/** Terms, "Text", and promises 7 to 9: feed, discard, length. */
final class TextTest {
    public static void main(String[] args) {
        all();
        Check.end();
    }

    static void all() {
        letters();
        segmentsAndParts();
        released();
        releasedAtTheEnd();
        tagAndElements();
        places();
        feedAppends();
        feedReturns();
        feedOfWrongLetters();
        feedIntoFullText();
        discard();
        length();
    }

    private static Run ready() {
        Run x = new Run();
        x.addItem('A', 0, 9);
        return x;
    }

    private static void letters() {
        Check.says("Terms", "Text. Letters here are the characters 32 to 126.");
        Run x = new Run();
        for (int letter = 0; letter <= 256; letter++) {
            char fed = (char) letter;
            if (letter == 32 || letter == 126) {
                Check.due("feed of the letter " + letter, x.feed(fed), letter == 32 ? 1 : 95);
            } else if (letter > 32 && letter < 126) {
                Check.due("feed of the letter " + letter, x.feed(fed), letter - 31);
            } else {
                Check.badArgument("feed of the letter " + letter, () -> x.feed(fed));
            }
        }
        Check.due("length of all letters", x.length(), 95);
        Run y = ready();
        Check.accepts(y, "H+1'A+ !~}'T+3+1'");
        Check.due("the least and the greatest letter", Check.content(y, 0, 0), " !~}");
    }

    private static void segmentsAndParts() {
        Check.says("Terms", "A segment ends with an apostrophe ('), and its parts are separated by plus signs (+).");
        Run x = ready();
        Check.accepts(x, "H+1'A'A+'A++'A+x'A+x+y'T+7+1'");
        Check.due("segments", x.segments(), 5);
        int[] elements = {0, 1, 2, 1, 2};
        for (int segment = 0; segment < elements.length; segment++) {
            Check.due("elements of " + segment, x.elements(segment), elements[segment]);
        }
        Check.due("the content between plus sign and apostrophe", Check.content(x, 3, 0), "x");
        Check.due("the one between plus signs", Check.content(x, 4, 0), "x");
        Check.faults("H+1'T+2+1", "1@4");
        Check.faults("H+1'T+2+1'", "");
        // The letters next to an apostrophe and a plus sign, and other signs, part nothing.
        Run y = ready();
        Check.accepts(y, "H+1'A+&(*,:;\"!'T+3+1'");
        Check.due("elements with other signs", y.elements(0), 1);
        Check.due("their content", Check.content(y, 0, 0), "&(*,:;\"!");
    }

    private static void released() {
        Check.says("Terms", "A question mark (?) releases the letter behind it: that letter is taken as it is, "
            + "whatever it is, and the question mark does not belong to the content.");
        StringBuilder body = new StringBuilder();
        for (int letter = 32; letter <= 126; letter++) {
            int number = letter - 32;
            body.append(number % 40 == 0 ? (number == 0 ? "A" : "'A") : "");
            body.append(number % 8 == 0 ? "+" : "").append('?').append((char) letter);
        }
        Run x = ready();
        Check.accepts(x, "H+1'" + body + "'T+5+1'");
        for (int letter = 32; letter <= 126; letter++) {
            int number = letter - 32;
            int got = x.content(number / 40, number / 8 % 5, number % 8);
            Check.due("the released letter " + letter, got, letter);
        }
        Check.due("length of eight released letters", x.contentLength(0, 0), 8);
        Check.due("length of seven released letters", x.contentLength(2, 1), 7);
        Run y = ready();
        Check.accepts(y, "H+1'A+??'A+?''A+???''A+????+?+'T+6+1'");
        Check.due("a question mark releases another one, and the apostrophe ends", Check.content(y, 0, 0), "?");
        Check.due("a released apostrophe does not end", Check.content(y, 1, 0), "'");
        Check.due("a released question mark, then a released apostrophe", Check.content(y, 2, 0), "?'");
        Check.due("two released question marks, and the plus sign parts", Check.content(y, 3, 0), "??");
        Check.due("a released plus sign does not part", Check.content(y, 3, 1), "+");
        Check.faults("?H+?1'?T+?2+?1'", "");
    }

    private static void releasedAtTheEnd() {
        Check.faults("?", "1@0");
        Check.faults("H+1'T+2+1?", "1@4");
        Check.faults("H+1'T+2+1?'", "1@4");
        Check.faults("H+1'T+2+1??", "1@4");
        Check.faults("H+1'T+2+1'?", "1@10");
    }

    private static void tagAndElements() {
        Check.says("Terms", "The first part of a segment is its tag, the others are its elements, numbered from 0.");
        Run x = ready();
        Check.accepts(x, "H+1'A+x+yy+B'A'T+4+1'");
        Check.due("the tag", x.tag(0), 'A');
        Check.due("the elements", x.elements(0), 3);
        Check.due("the element 0", Check.content(x, 0, 0), "x");
        Check.due("the element 1", Check.content(x, 0, 1), "yy");
        Check.due("the element 2", Check.content(x, 0, 2), "B");
        Check.badIndex("the element -1", () -> x.contentLength(0, -1));
        Check.badIndex("the element 3", () -> x.contentLength(0, 3));
        Check.due("the tag of a segment of one part", x.tag(1), 'A');
        Check.due("its elements", x.elements(1), 0);
    }

    private static void places() {
        Check.says("Terms", "A place is the number of a letter in the text, from 0.");
        Check.faults("x", "1@0");
        Check.faults("H+1'x", "1@4");
        Check.faults("?H+?1'x", "1@6");
        Check.faults("'x", "2@0 1@1");
        Run x = new Run();
        Check.due("the first text", Check.read(x, "H+1'x"), "1@4");
        Check.due("the next text is counted from 0, too", Check.read(x, "H+1'x"), "1@4");
        // The last one of the 300 letters that a text may have.
        Check.faults("A+" + "x".repeat(296) + "'y", "4@2 1@299");
    }

    private static void feedAppends() {
        Check.says("Promise 7", "Appends a letter to the text, which is empty at first.");
        Run x = ready();
        Check.due("length at first", x.length(), 0);
        Check.due("faults of the empty text", Check.read(x, ""), "6@0 7@0");
        Check.due("faults of letters in their order", Check.read(x, "H+1'A+xyz'T+3+1'"), "");
        Check.due("the letters in their order", Check.content(x, 0, 0), "xyz");
        Check.says("Promise 7", "`letter`: the letter");
        Run y = ready();
        Check.accepts(y, "H+1'A+ ~aA@'T+3+1'");
        Check.due("the letters as they were fed", Check.content(y, 0, 0), " ~aA@");
    }

    private static void feedReturns() {
        Check.says("Promise 7", "Returns the length of the text then.");
        Run x = new Run();
        Check.due("feed of the first letter", x.feed('a'), 1);
        Check.due("feed of the second letter", x.feed('\''), 2);
        x.discard();
        Check.due("feed after discard", x.feed('?'), 1);
        x.read();
        Check.due("feed after read", x.feed('+'), 1);
        for (int count = 2; count <= 300; count++) {
            Check.due("feed", x.feed('x'), count);
        }
    }

    private static void feedOfWrongLetters() {
        Check.says("Promise 7", "Throws `IllegalArgumentException` if it is not from 32 to 126");
        Run x = new Run();
        char[] wrong = {31, 127, 0, '\n', 128, 160, 255, 256, 288, 32767, 32768, 65535};
        for (char letter : wrong) {
            Check.badArgument("feed of " + (int) letter, () -> x.feed(letter));
        }
        Check.due("length after wrong letters", x.length(), 0);
        Check.due("feed of 32", x.feed((char) 32), 1);
        Check.due("feed of 126", x.feed((char) 126), 2);
    }

    private static void feedIntoFullText() {
        Check.says("Promise 7", "Throws `IllegalStateException` if the text has 300 letters");
        Run x = new Run();
        Check.fed(x, "x".repeat(299));
        Check.due("the letter 300", x.feed('\''), 300);
        Check.badState("the letter 301", () -> x.feed('z'));
        Check.badState("the letter 301 again", () -> x.feed('z'));
        Check.due("length of the full text", x.length(), 300);
        // The letter 300 counts, and the one behind it does not: an unfinished text would be kind 1.
        Check.due("faults of the full text", x.read(), 1);
        Check.due("its fault", x.faultKind(0), 2);
        Check.due("feed after read", x.feed('a'), 1);
        Check.due("length then", x.length(), 1);
    }

    private static void discard() {
        Check.says("Promise 8", "Empties the text.");
        Run x = new Run();
        Check.fed(x, "H+1'");
        x.discard();
        Check.due("length after discard", x.length(), 0);
        Check.due("what was discarded is not read", Check.read(x, "H+1'T+2+1'"), "");
        Check.fed(x, "x");
        x.discard();
        Check.due("faults of the text after discard", Check.read(x, ""), "6@0 7@0");
        Check.fed(x, "y");
        x.discard();
        Check.due("discard leaves the faults", x.faultKind(0), 6);
        Check.due("and the message", x.segments(), 0);
        Check.says("Promise 8", "Returns how many letters it had.");
        Run y = new Run();
        Check.due("discard of no letter", y.discard(), 0);
        y.feed('a');
        Check.due("discard of one letter", y.discard(), 1);
        Check.due("discard again", y.discard(), 0);
        Check.fed(y, "x".repeat(300));
        Check.due("discard of 300 letters", y.discard(), 300);
        Check.fed(y, "ab");
        y.read();
        Check.due("discard after read", y.discard(), 0);
    }

    private static void length() {
        Check.says("Promise 9", "Returns the length of the text.");
        Run x = new Run();
        Check.due("length at first", x.length(), 0);
        x.feed('?');
        Check.due("length of a question mark", x.length(), 1);
        x.feed('\'');
        Check.due("length with a released letter", x.length(), 2);
        x.discard();
        Check.due("length after discard", x.length(), 0);
        Check.fed(x, "x".repeat(300));
        Check.due("length of 300 letters", x.length(), 300);
        Check.due("length again", x.length(), 300);
        x.read();
        Check.due("length after read", x.length(), 0);
        Check.accepts(x, "H+1'T+2+1'");
        x.write();
        Check.due("length after write", x.length(), 0);
        x.feedWritten();
        Check.due("length after feedWritten", x.length(), 10);
        x.clear();
        Check.due("length after clear", x.length(), 10);
    }
}
