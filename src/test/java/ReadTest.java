/** Promises 10 to 12: read, faultKind, faultPlace, with each of the twelve kinds of faults. */
final class ReadTest {
    public static void main(String[] args) {
        unfinished();
        badTag();
        elements();
        tooManySegments();
        header();
        trailer();
        numbers();
        sequence();
        body();
        order();
        reading();
        faultNumbers();
        Check.end();
    }

    private static void faults(String text, String want) {
        Check.due("faults of " + text, Check.read(new Segmentry(), text), want);
    }

    private static void unfinished() {
        faults("x", "1@0");
        faults("H+1'T+2+1'x", "1@10");
        faults("H+1'T+2+1", "1@4");
        faults("H+1'T+2+1?'", "1@4");
        faults("?", "1@0");
        faults("H+1'?", "1@4");
        faults("?'", "1@0");
        // What is unfinished is not looked at any further.
        faults("ab+123456789+++++++", "1@0");
        faults("H+1'ab'cd", "2@4 1@7");
    }

    private static void badTag() {
        faults("'", "2@0");
        faults("AB'", "2@0");
        faults("a'", "2@0");
        faults("+A'", "2@0");
        faults("??'", "2@0");
        faults("?''", "2@0");
        faults("?+'", "2@0");
        faults("A?A'", "2@0");
        faults(" A'", "2@0");
        faults("@'['", "2@0 2@2");
        faults("?H+?1'?T+2+?1'", "");
        faults("H+1''T+3+1'", "2@4");
        faults("A'Z'", "6@0 7@2");
    }

    private static void elements() {
        faults("A+1+2+3+4+5'", "6@0 7@0");
        faults("A+1+2+3+4+5+'", "3@12");
        faults("A+1+2+3+4+5+6'", "3@12");
        faults("A+1+2+3+4+5+6+7+8'", "3@12");
        faults("A+1+2+3+4+5+123456789'", "3@12");
        faults("A++++++'", "3@7");
        faults("A+++++'", "6@0 7@0");
        faults("A+12345678'", "6@0 7@0");
        faults("A+123456789'", "4@2");
        faults("A+123456789+123456789++1+123456789+'", "4@2 4@12 4@25 3@35");
        faults("A+?1?2?3?4?5?6?7?8'", "6@0 7@0");
        faults("A+?1?2?3?4?5?6?7?8?9'", "4@2");
        faults("A+?'?+???'?+?????+'", "6@0 7@0");
        faults("A+?'?+???'?+?????++123456789'", "4@19");
        faults("ab+123456789'c+1++++123456789'D+++++'", "2@0 4@3 2@13 4@20");
        faults("A?+1+2'", "2@0");
    }

    private static void tooManySegments() {
        faults(Check.repeat("A'", 20), "6@0 7@38");
        faults(Check.repeat("A'", 20) + "A'", "5@40");
        faults(Check.repeat("A'", 20) + "x", "5@40");
        faults(Check.repeat("A'", 19) + "x", "1@38");
        faults(Check.repeat("A'", 20) + "ab+123456789'?", "5@40");
        faults(Check.repeat("A'", 19) + "a'B'", "2@38 5@40");
        // As many faults as a text can have: 20 segments with bad tags, of which some have too many elements.
        Segmentry x = new Segmentry();
        Check.fed(x, Check.repeat("++++++'", 20) + Check.repeat("'", 100));
        Check.due("faults of 20 bad segments", x.read(), 41);
        Check.due("the first kind", x.faultKind(0), 2);
        Check.due("the second kind", x.faultKind(1), 3);
        Check.due("the second place", x.faultPlace(1), 6);
        Check.due("the last kind", x.faultKind(40), 5);
        Check.due("the last place", x.faultPlace(40), 140);
    }

    private static void header() {
        faults("", "6@0 7@0");
        faults("A+1'T+2+1'", "6@0");
        faults("T+1'T+2+1'", "6@0");
        faults("H'T+2+1'", "6@0");
        faults("H+'T+2+1'", "6@0");
        faults("H+1+'T+2+1'", "6@0");
        faults("H+1+1'T+2+1'", "6@0");
        faults("H+12345'T+2+1'", "6@0");
        faults("H+x'T+2+1'", "6@0");
        faults("H+1x'T+2+1'", "6@0");
        faults("H+-1'T+2+1'", "6@0");
        faults("H+ 1'T+2+1'", "6@0");
        faults("H+1/'T+2+1'", "6@0");
        faults("H+:'T+2+1'", "6@0");
        faults("H+1234'T+2+1234'", "");
        faults("H+0'T+2+0'", "");
        faults("H+9999'T+2+9999'", "");
        faults("H+0001'T+0002+01'", "");
    }

    private static void trailer() {
        faults("H+1'", "7@0");
        faults("T+1+1'", "6@0 7@0");
        faults("H+1'A'", "7@4");
        faults("H+1'A'A'", "7@6");
        faults("H+1'T+2'", "7@4");
        faults("H+1'T'", "7@4");
        faults("H+1'T+2+1+'", "7@4");
        faults("H+1'T++1'", "7@4");
        faults("H+1'T+2+'", "7@4");
        faults("H+1'T+x+1'", "7@4");
        faults("H+1'T+2+x'", "7@4");
        faults("H+1'T+12345+1'", "7@4");
        faults("H+1'T+2+12345'", "7@4");
        faults("H+1'H+2+1'", "7@4");
        faults("A'B'", "6@0 7@2");
    }

    private static void numbers() {
        faults("H+1'T+3+1'", "8@4");
        faults("H+1'T+0+1'", "8@4");
        faults("H+1'T+2+2'", "9@4");
        faults("H+1'T+1+2'", "8@4 9@4");
        faults("H+12'T+2+012'", "");
        faults("H+1'A'T+2+1'", "8@6");
    }

    private static void sequence() {
        Segmentry x = new Segmentry();
        Check.due("any first number", Check.read(x, "H+9998'T+2+9998'"), "");
        Check.due("the same again", Check.read(x, "H+9998'T+2+9998'"), "10@0");
        Check.due("less by 1", Check.read(x, "H+9997'T+2+9997'"), "10@0");
        Check.due("greater by 2", Check.read(x, "H+0'T+2+0'"), "10@0");
        Check.due("all three", Check.read(x, "H+0'T+3+1'"), "10@0 8@4 9@4");
        Check.due("greater by 1, but faulty", Check.read(x, "H+9999'T+3+9999'"), "8@7");
        Check.due("greater by 1", Check.read(x, "H+9999'T+2+9999'"), "");
        Check.due("nothing is greater than 9999", Check.read(x, "H+0000'T+2+0000'"), "10@0");
        Check.due("nor 1", Check.read(x, "H+1'T+2+1'"), "10@0");
        Segmentry y = new Segmentry();
        Check.due("number 0", Check.read(y, "H+0'T+2+0'"), "");
        Check.due("number 0 counts as accepted", Check.read(y, "H+0'T+2+0'"), "10@0");
        Check.due("number 1", Check.read(y, "H+1'T+2+1'"), "");
    }

    private static void body() {
        Segmentry x = new Segmentry();
        x.addItem('A', 1, 2);
        x.addItem('B', 2, 3);
        Check.due("A missing", Check.read(x, Check.message(1, "")), "12@4");
        Check.due("B unexpected", Check.read(x, Check.message(1, "B'B'")), "11@4");
        Check.due("B missing", Check.read(x, Check.message(1, "A'")), "12@6");
        Check.due("one B missing", Check.read(x, Check.message(1, "A'B'")), "12@8");
        Check.due("third A", Check.read(x, Check.message(1, "A'A'A'")), "11@8");
        Check.due("fourth B", Check.read(x, Check.message(1, "A+x'B'B'B'B'")), "11@14");
        Check.due("A again", Check.read(x, Check.message(1, "A'B'A'")), "11@8");
        Check.due("H in the body", Check.read(x, Check.message(1, "A'H'B'B'")), "11@6");
        Check.due("T in the body", Check.read(x, Check.message(1, "A'B'B'T'")), "11@10");
        Check.due("a body that matches", Check.read(x, Check.message(1, "A'B'B'")), "");
    }

    private static void order() {
        Segmentry x = new Segmentry();
        x.addItem('A', 1, 1);
        // Each group of checks is only made if there is no fault so far.
        Check.due("split before envelope", Check.read(x, "a'"), "2@0");
        Check.due("envelope before numbers", Check.read(x, "A'T+9+9'"), "6@0");
        Check.due("numbers before body", Check.read(x, "H+1'B'T+4+1'"), "8@6");
        Check.due("body last", Check.read(x, "H+1'B'T+3+1'"), "11@4");
    }

    private static void reading() {
        Segmentry x = new Segmentry();
        x.addItem('A', 0, 9);
        Check.due("a message", Check.read(x, "H+1'A+x'T+3+1'"), "");
        Check.due("its text is gone", x.length(), 0);
        Check.due("a faulty message", Check.read(x, "H+2'A+y'A'T+3+2'"), "8@10");
        Check.due("its text is gone, too", x.length(), 0);
        Check.due("the message before stays", x.segments(), 1);
        Check.due("with its content", Check.content(x, 0, 0), "x");
        Check.due("with its control number", x.control(), 1);
        Check.fed(x, "H+2'");
        x.openLoop(0, 1);
        Check.badState("read with an open loop", () -> x.read());
        Check.due("the text stays then", x.length(), 4);
        Check.due("the faults stay then", x.faultKind(0), 8);
        x.addItem('B', 0, 1);
        x.closeLoop();
        Check.due("the rest of the text", Check.read(x, "B'A'T+4+2'"), "11@6");
        Check.due("an accepted one", Check.read(x, "H+2'A'B'T+4+2'"), "");
        Check.due("replaces the one before", Check.division(x), "A00,B11");
    }

    private static void faultNumbers() {
        Segmentry x = new Segmentry();
        Check.badIndex("faultKind before reading", () -> x.faultKind(0));
        Check.due("two faults", Check.read(x, ""), "6@0 7@0");
        Check.badIndex("faultKind of -1", () -> x.faultKind(-1));
        Check.badIndex("faultPlace of -1", () -> x.faultPlace(-1));
        Check.badIndex("faultKind of the least int", () -> x.faultKind(Integer.MIN_VALUE));
        Check.badIndex("faultPlace of the greatest int", () -> x.faultPlace(Integer.MAX_VALUE));
        Check.due("one fault", Check.read(x, "x"), "1@0");
        x.clear();
        Check.due("clear leaves the faults", x.faultKind(0), 1);
        Check.due("and their places", x.faultPlace(0), 0);
        Check.due("none", Check.read(x, "H+1'T+2+1'"), "");
    }
}
