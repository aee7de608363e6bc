/** Promises 7 to 9: feed, discard, length. */
final class TextTest {
    public static void main(String[] args) {
        feed();
        fullText();
        discard();
        Check.end();
    }

    private static void feed() {
        Segmentry x = new Segmentry();
        char[] wrong = {31, 127, 0, 128, 255, 65535, '\n'};
        for (char letter : wrong) {
            Check.badArgument("feed of " + (int) letter, () -> x.feed(letter));
        }
        Check.due("length after wrong letters", x.length(), 0);
        for (int letter = 32; letter <= 126; letter++) {
            Check.due("feed of " + letter, x.feed((char) letter), letter - 31);
        }
        Check.due("length of all letters", x.length(), 95);
    }

    private static void fullText() {
        Segmentry x = new Segmentry();
        Check.fed(x, Check.repeat("x", 299));
        Check.due("the letter 300", x.feed('y'), 300);
        Check.badState("the letter 301", () -> x.feed('z'));
        Check.badArgument("a wrong letter 301", () -> x.feed((char) 31));
        Check.due("length of a full text", x.length(), 300);
        Check.due("read of a full text", x.read(), 1);
        Check.due("its fault", x.faultKind(0), 1);
        Check.due("length after read", x.length(), 0);
        Check.due("feed after read", x.feed('a'), 1);
    }

    private static void discard() {
        Segmentry x = new Segmentry();
        Check.due("discard of nothing", x.discard(), 0);
        Check.fed(x, "abc");
        Check.due("length", x.length(), 3);
        Check.due("discard", x.discard(), 3);
        Check.due("length after discard", x.length(), 0);
        Check.due("discard again", x.discard(), 0);
        Check.due("what was discarded is not read", Check.read(x, "H+1'T+2+1'"), "");
        Check.fed(x, "x");
        Check.due("a read that fails", x.read(), 1);
        x.discard();
        Check.due("the faults stay", x.faultKind(0), 1);
    }
}
