/** Terms, "Reading", and promises 10 to 12: read, faultKind, faultPlace. */
final class ReadTest {
    public static void main(String[] args) {
        all();
        Check.end();
    }

    static void all() {
        kindsAndPlaces();
        unfinished();
        badTag();
        placeOfBadTag();
        tooManyElements();
        placeOfTooManyElements();
        tooLong();
        placeOfTooLong();
        tooManySegments();
        placeOfTooManySegments();
        envelopeAfterSplit();
        noHeader();
        headerDigits();
        noTrailer();
        trailerDigits();
        placeOfNoTrailer();
        numbersAfterEnvelope();
        wrongCount();
        wrongControl();
        outOfSequence();
        placesOfNumbers();
        bodyAfterNumbers();
        order();
        accepted();
        read();
        readAgain();
        readKeeps();
        readReturns();
        readInOpenLoop();
        faultKind();
        faultPlace();
    }

    private static void kindsAndPlaces() {
        Check.says("Terms", "Reading. A text is read as a message by these checks; each fault has a kind and a place.");
        Run x = new Run();
        Check.fed(x, "H+1'a'b'");
        Check.due("faults", x.read(), 2);
        Check.due("kind 0", x.faultKind(0), 2);
        Check.due("place 0", x.faultPlace(0), 4);
        Check.due("kind 1", x.faultKind(1), 2);
        Check.due("place 1", x.faultPlace(1), 6);
        Check.badIndex("kind 2", () -> x.faultKind(2));
        Check.badIndex("place 2", () -> x.faultPlace(2));
    }

    private static void unfinished() {
        Check.says("Terms", "First the text is split into segments. 1, unfinished: the text behind the last segment "
            + "that ends is not empty;");
        Check.faults("H+1'T+2+1'", "");
        Check.faults("H+1'T+2+1'x", "1@10");
        Check.faults("H+1'T+2+1' ", "1@10");
        Check.faults("H+1'T+2+1", "1@4");
        Check.faults("", "6@0 7@0");
        Check.faults("x", "1@0");
        Check.faults("?'", "1@0");
        Check.faults("'", "2@0");
        Check.says("Terms", "the place is where it begins, and it is not looked at any further.");
        Check.faults("ab+123456789+++++++", "1@0");
        Check.faults("ab+123456789+++++++'", "2@0 4@3 3@17");
        Check.faults("H+1'ab+123456789", "1@4");
        Check.faults("H+1'ab'cd", "2@4 1@7");
    }

    private static void badTag() {
        Check.says("Terms", "2, bad tag: the content of the tag of a segment is not one letter from A to Z;");
        for (char letter = 32; letter <= 126; letter++) {
            boolean good = letter >= 'A' && letter <= 'Z';
            Check.faults("?" + letter + "'", good ? "6@0 7@0" : "2@0");
            if (letter != '?' && letter != '+' && letter != '\'') {
                Check.faults(letter + "'", good ? "6@0 7@0" : "2@0");
                Check.faults(letter + "+x'", good ? "6@0 7@0" : "2@0");
            }
        }
        Check.faults("'", "2@0");
        Check.faults("+A'", "2@0");
        Check.faults("AB'", "2@0");
        Check.faults("A?B'", "2@0");
        Check.faults("?AB'", "2@0");
        Check.faults("?A?B'", "2@0");
        Check.faults("A?+'", "2@0");
        Check.faults("A?''", "2@0");
        Check.faults("A??'", "2@0");
        Check.faults(" A'", "2@0");
        Check.faults("A '", "2@0");
        Check.faults("ABCDEFGHIJ'", "2@0");
    }

    private static void placeOfBadTag() {
        Check.says("Terms", "the place is where the segment begins.");
        Check.faults("?a'", "2@0");
        Check.faults("A'?a'", "2@2");
        Check.faults("H+1''T+3+1'", "2@4");
        Check.faults("A'BC'D'ef'GH'", "2@2 2@7 2@10");
    }

    private static void tooManyElements() {
        Check.says("Terms", "3, too many elements: a segment has more than 5 elements;");
        Check.faults("A+1+2+3+4+5'", "6@0 7@0");
        Check.faults("A+1+2+3+4+5+6'", "3@12");
        Check.faults("A+1+2+3+4+5+6+7'", "3@12");
        Check.faults("A+++++'", "6@0 7@0");
        Check.faults("A++++++'", "3@7");
        Check.faults("A+++++++++++++++'", "3@7");
        Check.faults("A+1+2+3+4+5?+6'", "6@0 7@0");
        Run x = new Run();
        x.addItem('A', 0, 9);
        Check.accepts(x, "H+1'A+1+2+3+4+5'T+3+1'");
        Check.due("elements of a segment with 5", x.elements(0), 5);
    }

    private static void placeOfTooManyElements() {
        Check.says("Terms", "the place is where the one with the number 5 begins, behind its plus sign;");
        Check.faults("A+++++?x+'", "3@9");
        Check.faults("A+?1+22+3+4+5+6'", "3@14");
        Check.faults("H+1'A++++++'B++++++'", "3@11 3@19");
        Check.faults("A++++++", "1@0");
        Check.says("Terms", "that element and those behind it are not looked at.");
        Check.faults("A+++++123456789'", "4@6");
        Check.faults("A++++++123456789'", "3@7");
        Check.faults("A+++++++123456789'", "3@7");
        Check.faults("A+1+2+3+4+5+123456789+123456789'", "3@12");
    }

    private static void tooLong() {
        Check.says("Terms", "4, too long, for each of the elements 0 to 4 by itself: its content has more than 8 letters;");
        for (int element = 0; element <= 4; element++) {
            String before = "A" + "+".repeat(element + 1);
            String behind = "+".repeat(4 - element) + "'";
            Check.faults(before + "12345678" + behind, "6@0 7@0");
            Check.faults(before + "123456789" + behind, "4@" + (2 + element));
            Check.faults(before + "1234567890" + behind, "4@" + (2 + element));
        }
        Check.faults("A+12345678+12345678+12345678+12345678+12345678'", "6@0 7@0");
        Check.faults("A+123456789+123456789+123456789+123456789+123456789'", "4@2 4@12 4@22 4@32 4@42");
        Check.faults("A+?1?2?3?4?5?6?7?8'", "6@0 7@0");
        Check.faults("A+?1?2?3?4?5?6?7?8?9'", "4@2");
        Check.faults("A+????????????????'", "6@0 7@0");
        Check.faults("A+?'?+???'?+?????+'", "6@0 7@0");
        Check.faults("A+?'?+???'?+?????+x'", "4@2");
        Check.faults("A+" + "x".repeat(297) + "'", "4@2");
        // The tag is no element: it is a bad tag, and not too long.
        Check.faults("ABCDEFGHIJ'", "2@0");
        // Nor is the element of the envelope free of it.
        Check.faults("H+123456789'T+2+1'", "4@2");
    }

    private static void placeOfTooLong() {
        Check.says("Terms", "the place is where it begins, behind its plus sign.");
        Check.faults("A++?a23456789'", "4@3");
        Check.faults("?A+123456789'", "4@3");
        Check.faults("H+1'A+123456789'B+x+123456789'", "4@6 4@20");
        Check.faults("A+?'?+???'?+?????++123456789'", "4@19");
    }

    private static void tooManySegments() {
        String twenty = Check.body("A".repeat(20));
        Check.says("Terms", "5, too many segments: there is text behind the 20th segment;");
        Check.faults(Check.body("A".repeat(19)), "6@0 7@36");
        Check.faults(twenty, "6@0 7@38");
        Check.faults(twenty + "A'", "5@40");
        Check.faults(twenty + "A'B'C'", "5@40");
        Check.faults(twenty + "'", "5@40");
        Check.faults(twenty + "x", "5@40");
        Check.faults(twenty + "?", "5@40");
        Run x = new Run();
        x.addItem('A', 9, 9);
        x.addItem('B', 9, 9);
        String body = Check.body("AAAAAAAAABBBBBBBBB");
        Check.due("21 segments", Check.read(x, "H+1'" + body + "B'T+21+1'"), "5@42");
        Check.accepts(x, "H+1'" + body + "T+20+1'");
    }

    private static void placeOfTooManySegments() {
        String twenty = Check.body("A".repeat(20));
        Check.says("Terms", "the place is where it begins, and nothing behind that is looked at.");
        Check.faults(twenty + "ab+123456789+++++++'", "5@40");
        Check.faults(twenty + "ab'cd'ef", "5@40");
        Check.faults(Check.body("A".repeat(19)) + "a'b'", "2@38 5@40");
        Check.faults(Check.body("A".repeat(19)) + "A+123456789'B'", "4@40 5@50");
        Check.faults(Check.body("A".repeat(18)) + "ab'A++++++'cd", "2@36 3@46 5@47");
        Check.says("Terms", "(A text behind the 20th segment is no unfinished one.)");
        Check.faults(twenty + "x", "5@40");
        Check.faults(Check.body("A".repeat(19)) + "x", "1@38");
        Check.faults(Check.body("A".repeat(19)) + "x?'", "1@38");
    }

    private static void envelopeAfterSplit() {
        Check.says("Terms", "If there is no fault so far, the envelope is checked.");
        Check.faults("A'", "6@0 7@0");
        Check.faults("A'x", "1@2");
        Check.faults("A'b'", "2@2");
        Check.faults("A++++++'", "3@7");
        Check.faults("A+123456789'", "4@2");
        Check.faults(Check.body("A".repeat(21)), "5@40");
    }

    private static void noHeader() {
        Check.says("Terms", "6, no header: there is no first segment, or its tag is not H, or it has not just one element, "
            + "of 1 to 4 digits; the place is 0.");
        Check.faults("", "6@0 7@0");
        Check.faults("H+1'T+2+1'", "");
        for (char tag = 'A'; tag <= 'Z'; tag++) {
            Check.faults(tag + "+1'T+2+1'", tag == 'H' ? "" : "6@0");
        }
        Check.faults("H'T+2+1'", "6@0");
        Check.faults("H+1+'T+2+1'", "6@0");
        Check.faults("H+1+1'T+2+1'", "6@0");
        Check.faults("H+1++++'T+2+1'", "6@0");
        Check.faults("H++1'T+2+1'", "6@0");
        // It has to be the first one: another H does not help.
        Check.faults("A'H+1'T+3+1'", "6@0");
        Check.faults("H'H+1'T+3+1'", "6@0");
        Check.faults("T+2+1'H+1'", "6@0 7@6");
    }

    private static void headerDigits() {
        Check.faults("H+'T+2+1'", "6@0");
        Check.faults("H+0'T+2+0'", "");
        Check.faults("H+1234'T+2+1234'", "");
        Check.faults("H+9999'T+2+9999'", "");
        Check.faults("H+12345'T+2+1'", "6@0");
        Check.faults("H+00001'T+2+1'", "6@0");
        Check.faults("H+12345678'T+2+1'", "6@0");
        Check.faults("H+0001'T+2+1'", "");
        for (char letter = 32; letter <= 126; letter++) {
            boolean digit = letter >= '0' && letter <= '9';
            Check.faults("H+?" + letter + "'T+2+" + (digit ? letter : '1') + "'", digit ? "" : "6@0");
            Check.faults("H+?" + letter + "000'T+2+" + (digit ? letter : '1') + "000'", digit ? "" : "6@0");
            Check.faults("H+000?" + letter + "'T+2+" + (digit ? letter : '1') + "'", digit ? "" : "6@0");
        }
        Check.faults("H+-1'T+2+1'", "6@0");
        Check.faults("H+ 1'T+2+1'", "6@0");
    }

    private static void noTrailer() {
        Check.says("Terms", "7, no trailer: there is no second segment, or the tag of the last one is not T, or it has not "
            + "just two elements, each of 1 to 4 digits;");
        Check.faults("H+1'", "7@0");
        Check.faults("T+1+1'", "6@0 7@0");
        Check.faults("H+1'T+2+1'", "");
        for (char tag = 'A'; tag <= 'Z'; tag++) {
            Check.faults("H+1'" + tag + "+2+1'", tag == 'T' ? "" : "7@4");
        }
        Check.faults("H+1'T'", "7@4");
        Check.faults("H+1'T+2'", "7@4");
        Check.faults("H+1'T+2+1+'", "7@4");
        Check.faults("H+1'T+2+1+1'", "7@4");
        Check.faults("H+1'T+2+1+++'", "7@4");
        // It has to be the last one: another T does not help.
        Check.faults("H+1'T+3+1'A'", "7@10");
        Check.faults("H+1'T+3+1'T'", "7@10");
    }

    private static void trailerDigits() {
        Check.faults("H+1'T++1'", "7@4");
        Check.faults("H+1'T+2+'", "7@4");
        Check.faults("H+1'T++'", "7@4");
        Check.faults("H+1'T+0002+0001'", "");
        Check.faults("H+1'T+00002+1'", "7@4");
        Check.faults("H+1'T+2+00001'", "7@4");
        Check.faults("H+1'T+12345678+1'", "7@4");
        for (char letter = 32; letter <= 126; letter++) {
            boolean digit = letter >= '0' && letter <= '9';
            Check.faults("H+1'T+?" + letter + "+1'", !digit ? "7@4" : letter == '2' ? "" : "8@4");
            Check.faults("H+1'T+2+?" + letter + "'", !digit ? "7@4" : letter == '1' ? "" : "9@4");
            Check.faults("H+1'T+000?" + letter + "+1'", !digit ? "7@4" : letter == '2' ? "" : "8@4");
            Check.faults("H+1'T+2+?" + letter + "001'", !digit ? "7@4" : letter == '0' ? "" : "9@4");
        }
    }

    private static void placeOfNoTrailer() {
        Check.says("Terms", "the place is where the last segment begins, 0 if there is none.");
        Check.faults("", "6@0 7@0");
        Check.faults("H+1'", "7@0");
        Check.faults("H+1'A'", "7@4");
        Check.faults("H+1'A'A'", "7@6");
        Check.faults("A+1'B+2+3+4'C'", "6@0 7@12");
        // A text without segments after one with segments.
        Run x = new Run();
        Check.due("a text of two segments", Check.read(x, "A'B'"), "6@0 7@2");
        Check.due("a text of none", Check.read(x, ""), "6@0 7@0");
    }

    private static void numbersAfterEnvelope() {
        Check.says("Terms", "If there is no fault so far, the numbers are checked.");
        Check.faults("H+1'T+3+2'", "8@4 9@4");
        Check.faults("A+1'T+3+2'", "6@0");
        Check.faults("H+1'T+3+'", "7@4");
        Check.faults("H+1'T+3+2'x", "1@10");
        Run x = new Run();
        Check.accepts(x, "H+1'T+2+1'");
        Check.due("a wrong header, out of sequence", Check.read(x, "H+7+'T+2+7'"), "6@0");
        Check.due("a wrong trailer, out of sequence", Check.read(x, "H+7'T+2+7+'"), "7@4");
        Check.due("out of sequence", Check.read(x, "H+7'T+2+7'"), "10@0");
    }

    private static void wrongCount() {
        Check.says("Terms", "8, wrong count: the number in the element 0 of the trailer is not the number of segments, "
            + "header and trailer included.");
        Check.faults("H+1'T+2+1'", "");
        Check.faults("H+1'T+1+1'", "8@4");
        Check.faults("H+1'T+3+1'", "8@4");
        Check.faults("H+1'T+0+1'", "8@4");
        Check.faults("H+1'T+2000+1'", "8@4");
        Check.faults("H+1'T+0002+1'", "");
        Check.faults("H+1'T+0020+1'", "8@4");
        Check.faults("H+1'A'T+2+1'", "8@6");
        Check.faults("H+1'A'T+4+1'", "8@6");
        Run x = new Run();
        x.addItem('A', 9, 9);
        x.addItem('B', 9, 9);
        String body = Check.body("AAAAAAAAABBBBBBBBB");
        Check.due("19 told of 20", Check.read(x, "H+1'" + body + "T+19+1'"), "8@40");
        Check.due("21 told of 20", Check.read(x, "H+1'" + body + "T+21+1'"), "8@40");
        Check.accepts(x, "H+1'" + body + "T+020+1'");
    }

    private static void wrongControl() {
        Check.says("Terms", "9, wrong control: the number in its element 1 is not the control number, "
            + "which is the number in the header.");
        Check.faults("H+5'T+2+5'", "");
        Check.faults("H+5'T+2+4'", "9@4");
        Check.faults("H+5'T+2+6'", "9@4");
        Check.faults("H+5'T+2+0'", "9@4");
        Check.faults("H+0005'T+2+5'", "");
        Check.faults("H+5'T+2+0005'", "");
        Check.faults("H+5'T+2+5000'", "9@4");
        Check.faults("H+1234'T+2+1234'", "");
        Check.faults("H+1234'T+2+1243'", "9@7");
        Check.faults("H+1234'T+2+2234'", "9@7");
        Check.faults("H+0'T+2+0000'", "");
    }

    private static void outOfSequence() {
        Check.says("Terms", "10, out of sequence: a message was accepted before, and the control number is not greater by 1 "
            + "than that of the one accepted last.");
        for (int number : new int[] {0, 1, 2, 5000, 9999}) {
            Check.faults(Check.message(number, ""), "");
        }
        Run x = new Run();
        Check.accepts(x, "H+9998'T+2+9998'");
        Check.due("the same again", Check.read(x, "H+9998'T+2+9998'"), "10@0");
        Check.due("less by 1", Check.read(x, "H+9997'T+2+9997'"), "10@0");
        Check.due("1", Check.read(x, "H+1'T+2+1'"), "10@0");
        Check.due("greater by 1, but faulty", Check.read(x, "H+9999'T+3+9999'"), "8@7");
        Check.due("the faulty one was not accepted", Check.read(x, "H+9998'T+2+9998'"), "10@0");
        Check.due("greater by 1", Check.read(x, "H+9999'T+2+9999'"), "");
        Check.due("nothing is greater than 9999 by 1", Check.read(x, "H+0000'T+2+0000'"), "10@0");
        Check.due("nor is 1", Check.read(x, "H+1'T+2+1'"), "10@0");
        Run y = new Run();
        Check.accepts(y, "H+0'T+2+0'");
        Check.due("number 0 was accepted, too", Check.read(y, "H+0'T+2+0'"), "10@0");
        Check.due("greater by 2", Check.read(y, "H+2'T+2+2'"), "10@0");
        Check.accepts(y, "H+1'T+2+1'");
        Check.accepts(y, "H+0002'T+2+02'");
        y.clear();
        Check.due("after clear, not greater by 1", Check.read(y, "H+5'T+2+5'"), "10@0");
        Check.due("after clear, greater by 1", Check.read(y, "H+3'T+2+3'"), "");
        Run z = new Run();
        Check.due("a first one that is faulty", Check.read(z, "H+5'T+3+5'"), "8@4");
        Check.due("it does not count", Check.read(z, "H+1'T+2+1'"), "");
    }

    private static void placesOfNumbers() {
        Check.says("Terms", "The place is where the trailer begins for 8 and 9, and 0 for 10.");
        Run x = new Run();
        x.addItem('A', 0, 9);
        Check.accepts(x, "H+0001'A+x'T+3+1'");
        Check.due("8", Check.read(x, "H+0002'A+x'T+2+2'"), "8@11");
        Check.due("9", Check.read(x, "H+2'A+?''A'T+4+1'"), "9@11");
        Check.due("10", Check.read(x, "H+3'A'T+3+3'"), "10@0");
        Check.due("8 and 9 without a body", Check.read(x, "H+2'T+3+3'"), "8@4 9@4");
    }

    private static void bodyAfterNumbers() {
        Check.says("Terms", "If there is no fault so far, the body, which are the segments between header and trailer, "
            + "is matched against the schema.");
        Run x = new Run();
        x.addItem('A', 1, 1);
        Check.due("a wrong body", Check.read(x, "H+1'B'T+3+1'"), "11@4");
        Check.due("with a wrong count", Check.read(x, "H+1'B'T+2+1'"), "8@6");
        Check.due("with a wrong control", Check.read(x, "H+1'B'T+3+2'"), "9@6");
        Check.due("with a wrong header", Check.read(x, "H'B'T+3+1'"), "6@0");
        Check.due("with a bad tag", Check.read(x, "H+1'b'T+3+1'"), "2@4");
        Check.accepts(x, "H+1'A'T+3+1'");
        Check.due("out of sequence", Check.read(x, "H+1'B'T+3+1'"), "10@0");
        Check.due("an empty body", Check.read(x, "H+2'T+2+2'"), "12@4");
        Check.due("a header in the body", Check.read(x, "H+2'A'H+2'T+4+2'"), "11@6");
        Check.due("a trailer in the body", Check.read(x, "H+2'T+3+2'T+3+2'"), "11@4");
    }

    private static void order() {
        Check.says("Terms", "Faults are ordered by place, and by kind where the places are the same.");
        Check.faults("ab+123456789'c+1++++123456789'D+++++'", "2@0 4@3 2@13 4@20");
        Check.faults("A+123456789+123456789++1+123456789+'", "4@2 4@12 4@25 3@35");
        Check.faults("ab+123456789+++++'c", "2@0 4@3 3@17 1@18");
        Check.faults(Check.body("a".repeat(20)) + "b",
            "2@0 2@2 2@4 2@6 2@8 2@10 2@12 2@14 2@16 2@18 2@20 2@22 2@24 2@26 2@28 2@30 2@32 2@34 2@36 2@38 5@40");
        Check.faults("A'", "6@0 7@0");
        Check.faults("A'B'", "6@0 7@2");
        Check.faults("H+1'T+3+2'", "8@4 9@4");
        Run x = new Run();
        Check.accepts(x, "H+1'T+2+1'");
        Check.due("10 stands before 8", Check.read(x, "H+1'T+3+1'"), "10@0 8@4");
        Check.due("10 stands before 9", Check.read(x, "H+1'T+2+2'"), "10@0 9@4");
        Check.due("10 stands before both", Check.read(x, "H+1'T+3+2'"), "10@0 8@4 9@4");
    }

    private static void accepted() {
        Check.says("Terms", "A message without faults is accepted.");
        Run x = new Run();
        Check.due("a message with a fault", Check.read(x, "H+1'T+3+1'"), "8@4");
        Check.badState("segments of it", () -> x.segments());
        Check.noElement("control of it", () -> x.control());
        Check.due("a message without", Check.read(x, "H+1'T+2+1'"), "");
        Check.due("segments of it", x.segments(), 0);
        Check.due("control of it", x.control(), 1);
    }

    private static void read() {
        Check.says("Promise 10", "Reads the text as a message, and empties it.");
        Run x = new Run();
        x.addItem('A', 0, 9);
        Check.due("a message", Check.read(x, "H+1'A+x'T+3+1'"), "");
        Check.due("its text is gone", x.length(), 0);
        Check.due("a faulty message", Check.read(x, "H+2'A+y'A'T+3+2'"), "8@10");
        Check.due("its text is gone, too", x.length(), 0);
        Check.due("read of the empty text", x.read(), 2);
        Check.due("an unfinished message", Check.read(x, "H+2'T+2+2"), "1@4");
        Check.due("it is not finished by the next letters", Check.read(x, "'"), "2@0");
    }

    private static void readAgain() {
        Check.says("Promise 10", "The faults that were found at the reading before are forgotten.");
        Run x = new Run();
        Check.due("three faults", Check.read(x, "a'b'c'"), "2@0 2@2 2@4");
        Check.due("one fault", Check.read(x, "x"), "1@0");
        Check.badIndex("the kind 1", () -> x.faultKind(1));
        Check.badIndex("the place 1", () -> x.faultPlace(1));
        Check.due("the same fault again", Check.read(x, "x"), "1@0");
        Check.due("none", Check.read(x, "H+1'T+2+1'"), "");
        Check.badIndex("the kind 0", () -> x.faultKind(0));
        Check.badIndex("the place 0", () -> x.faultPlace(0));
    }

    private static void readKeeps() {
        Check.says("Promise 10", "If it is accepted, it is the accepted message from now on; otherwise the one before stays.");
        Run x = new Run();
        x.addItem('A', 0, 9);
        x.addItem('B', 0, 9);
        Check.accepts(x, "H+1'A+x'T+3+1'");
        Check.due("its content", Check.content(x, 0, 0), "x");
        String[] faulty = {"x", "a'", "H+2'A++++++'T+3+2'", "H+2'A+123456789'T+3+2'", Check.body("A".repeat(21)),
            "B+y'B+z'", "H+2'B+y'B'", "H+2'B+y'B'T+3+2'", "H+2'B+y'B'T+4+3'", "H+3'B+y'B'T+4+3'", "H+2'B+y'A'T+4+2'"};
        int[] kinds = {1, 2, 3, 4, 5, 6, 7, 8, 9, 10, 11};
        for (int number = 0; number < faulty.length; number++) {
            Check.fed(x, faulty[number]).read();
            Check.due("the fault of " + faulty[number], x.faultKind(0), kinds[number]);
            Check.due("the message before stays", x.segments(), 1);
            Check.due("with its content", Check.content(x, 0, 0), "x");
            Check.due("with its division", Check.division(x), "A00");
            Check.due("with its control number", x.control(), 1);
        }
        Check.accepts(x, "H+2'B+y'B'T+4+2'");
        Check.due("the next one counts from now on", Check.division(x), "B10,B10");
        Check.due("with its content", Check.content(x, 0, 0), "y");
        Check.due("with its control number", x.control(), 2);
    }

    private static void readReturns() {
        Check.says("Promise 10", "Returns the number of faults.");
        Run x = new Run();
        Check.due("two faults", x.read(), 2);
        Check.due("one fault", Check.fed(x, "x").read(), 1);
        Check.due("no fault", Check.fed(x, "H+1'T+2+1'").read(), 0);
        Check.due("three faults", Check.fed(x, "H+1'T+3+2'").read(), 3);
        // As many faults as a text can have: each segment has a bad tag, and most have too many elements.
        Run y = new Run();
        Check.due("faults of 20 bad segments", Check.fed(y, "++++++'".repeat(20) + "'".repeat(160)).read(), 41);
        Check.due("the first kind", y.faultKind(0), 2);
        Check.due("the second kind", y.faultKind(1), 3);
        Check.due("the second place", y.faultPlace(1), 6);
        Check.due("the last kind but one", y.faultKind(39), 3);
        Check.due("the last kind", y.faultKind(40), 5);
        Check.due("the last place", y.faultPlace(40), 140);
        Check.badIndex("the kind behind it", () -> y.faultKind(41));
    }

    private static void readInOpenLoop() {
        Check.says("Promise 10", "Throws `IllegalStateException` if a loop is open");
        Run x = new Run();
        x.addItem('A', 0, 1);
        Check.due("one fault", Check.read(x, "H+1'T+3+1'"), "8@4");
        Check.fed(x, "H+1'");
        x.openLoop(0, 1);
        Check.badState("read in a loop without items", () -> x.read());
        x.addItem('B', 0, 1);
        Check.badState("read in a loop", () -> x.read());
        Check.due("the text stays", x.length(), 4);
        Check.due("the faults stay", x.faultKind(0), 8);
        x.closeLoop();
        Check.due("read when it is closed", Check.read(x, "A'B'T+4+1'"), "");
        x.openLoop(0, 1);
        Check.badState("read of nothing in a loop", () -> x.read());
        x.clear();
        Check.due("read when it is removed", x.read(), 2);
    }

    private static void faultKind() {
        Check.says("Promise 11", "Returns the kind of a fault that was found at the last reading.");
        Run x = new Run();
        Check.due("faults", Check.read(x, "ab+123456789'c"), "2@0 4@3 1@13");
        x.clear();
        x.feed('x');
        x.discard();
        Check.due("the kind stays when nothing is read", x.faultKind(1), 4);
        Check.says("Promise 11", "`fault`: 0 for the first one");
        Check.due("the first kind", x.faultKind(0), 2);
        Check.due("the last kind", x.faultKind(2), 1);
        Check.says("Promise 11", "Returns 1 to 12.");
        String[] texts = {"x", "'", "A++++++'", "A+123456789'", Check.body("A".repeat(21)), "A'T+2+1'", "H+1'A'",
            "H+1'T+1+1'", "H+1'T+2+2'", "H+1'T+2+1'", "H+2'A'A'T+4+2'", "H+2'T+2+2'"};
        Run y = new Run();
        Check.accepts(y, "H+1'T+2+1'");
        y.addItem('A', 1, 1);
        for (int kind = 1; kind <= 12; kind++) {
            // The numbers of the texts before the tenth stand beside the sequence: they are read by a new object.
            Run one = kind < 10 ? new Run() : y;
            Check.due("faults of " + texts[kind - 1], Check.fed(one, texts[kind - 1]).read(), 1);
            Check.due("the kind " + kind, one.faultKind(0), kind);
        }
        Check.says("Promise 11", "Throws `IndexOutOfBoundsException` if there is no such fault");
        noSuchFault(true);
    }

    private static void faultPlace() {
        Check.says("Promise 12", "Returns the place of a fault that was found at the last reading.");
        Run x = new Run();
        Check.due("faults", Check.read(x, "ab+123456789'c"), "2@0 4@3 1@13");
        x.clear();
        x.feed('x');
        x.discard();
        Check.due("the place stays when nothing is read", x.faultPlace(1), 3);
        Check.says("Promise 12", "`fault`: 0 for the first one");
        Check.due("the first place", x.faultPlace(0), 0);
        Check.due("the last place", x.faultPlace(2), 13);
        Check.says("Promise 12", "Returns its place in the text that was read.");
        Check.fed(x, "xyz");
        Check.due("the text that is fed does not count", x.faultPlace(2), 13);
        x.discard();
        Check.due("the next reading", Check.read(x, "H+1'x"), "1@4");
        Check.says("Promise 12", "Throws `IndexOutOfBoundsException` if there is no such fault");
        noSuchFault(false);
    }

    private static void noSuchFault(boolean kind) {
        Run x = new Run();
        noFault(x, kind, 0);
        Check.fed(x, "a'b'");
        noFault(x, kind, 0);
        Check.due("read", x.read(), 2);
        Check.due("the last fault", kind ? x.faultKind(1) : x.faultPlace(1), 2);
        for (int fault : new int[] {-1, 2, 3, 40, 1000, Integer.MIN_VALUE, Integer.MAX_VALUE}) {
            noFault(x, kind, fault);
        }
        Check.due("read", Check.fed(x, "H+1'T+2+1'").read(), 0);
        noFault(x, kind, 0);
        noFault(x, kind, -1);
    }

    private static void noFault(Run x, boolean kind, int fault) {
        Check.badIndex("fault " + fault, () -> {
            if (kind) {
                x.faultKind(fault);
            } else {
                x.faultPlace(fault);
            }
        });
    }
}
