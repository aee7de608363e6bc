/** Terms, "The schema": which bodies match, which way to divide them counts, and how far a body could go. */
final class MatchTest {
    public static void main(String[] args) {
        all();
        Check.end();
    }

    static void all() {
        inOrder();
        timesOfItems();
        passesOfLoops();
        passesHaveSegments();
        itemsOfPasses();
        greedyItems();
        greedyPasses();
        whereBothLead();
        longestBeginning();
        unexpected();
        missing();
        fullBodies();
    }

    /** A schema as "A01" for items and "(02 A11 B01)" for loops, with blanks between. */
    private static Run with(String schema) {
        Run x = new Run();
        for (String word : schema.replace("(", "( ").replace(")", " )").trim().split(" +")) {
            int least = word.length() > 1 ? word.charAt(word.length() - 2) - '0' : 0;
            int most = word.charAt(word.length() - 1) - '0';
            if (word.equals(")")) {
                x.closeLoop();
            } else if (word.length() == 2) {
                x.openLoop(least, most);
            } else if (word.length() == 3) {
                x.addItem(word.charAt(0), least, most);
            }
        }
        return x;
    }

    private static void divides(String schema, String tags, String want) {
        Run x = with(schema);
        String faults = Check.read(x, Check.message(1, Check.body(tags)));
        Check.due(schema + " of " + tags + ": faults", faults, "");
        if (faults.isEmpty()) {
            Check.due(schema + " of " + tags, Check.division(x), want);
        }
    }

    private static void refuses(String schema, String tags, int kind, int beginning) {
        String faults = Check.read(with(schema), Check.message(1, Check.body(tags)));
        Check.due(schema + " of " + tags + ": faults", faults, kind + "@" + (4 + 2 * beginning));
    }

    private static void inOrder() {
        Check.says("Terms", "A body matches if its segments can be divided, in order, among the entries of the list,");
        divides("A11 B11", "AB", "A00,B10");
        refuses("A11 B11", "BA", 11, 0);
        divides("A01 (01 B11) C01", "AC", "A00,C20");
        divides("A01 (01 B11) C01", "BC", "B11,C20");
        divides("A01 (01 B11) C01", "", "");
        refuses("A01 (01 B11) C01", "CB", 11, 1);
        refuses("A01 (01 B11) C01", "BA", 11, 1);
        refuses("A01 (01 B11) C01", "ABA", 11, 2);
        divides("A01 B01 A01", "ABA", "A00,B10,A20");
        refuses("A01 B01 A01", "BAB", 11, 2);
        divides("(11 A11 B11) (11 B11 A11)", "ABBA", "A01,B11,B21,A31");
        refuses("(11 A11 B11) (11 B11 A11)", "BAAB", 11, 0);
    }

    private static void timesOfItems() {
        Check.says("Terms", "so that each item has as many segments, all with its tag, as its numbers allow,");
        for (int least = 0; least <= 9; least++) {
            for (int most = Math.max(1, least); most <= 9; most++) {
                for (int count = 0; count <= most + 1; count++) {
                    allows("A" + least + most, "A", "A00", least, most, count);
                }
            }
        }
        refuses("A23", "AB", 11, 1);
        refuses("A23", "AZ", 11, 1);
        refuses("A23", "AH", 11, 1);
        refuses("A23", "AT", 11, 1);
        refuses("B23", "BA", 11, 1);
        divides("Z23", "ZZ", "Z00,Z00");
        divides("A12 A23", "AAA", "A00,A10,A10");
        divides("A12 A23", "AAAAA", "A00,A00,A10,A10,A10");
        refuses("A12 A23", "AA", 12, 2);
        refuses("A12 A23", "AAAAAA", 11, 5);
    }

    /** A body of so many of these segments, if from least to most are allowed. */
    private static void allows(String schema, String tags, String each, int least, int most, int count) {
        String body = tags.repeat(count);
        if (count < least) {
            refuses(schema, body, 12, body.length());
        } else if (count > most) {
            refuses(schema, body, 11, tags.length() * most);
        } else {
            StringBuilder want = new StringBuilder();
            for (int number = 1; number <= count; number++) {
                want.append(number == 1 ? "" : ",").append(each.replace("#", "" + number));
            }
            divides(schema, body, want.toString());
        }
    }

    private static void passesOfLoops() {
        Check.says("Terms", "and each loop as many passes as its numbers allow;");
        for (int least = 0; least <= 9; least++) {
            for (int most = Math.max(1, least); most <= 9; most++) {
                for (int count = 0; count <= most + 1; count++) {
                    allows("(" + least + most + " A11)", "A", "A0#", least, most, count);
                }
            }
        }
        for (int count = 0; count <= 4; count++) {
            allows("(23 A11 B01 C11)", "ABC", "A0#,B1#,C2#", 2, 3, count);
            allows("(03 A11 B11)", "AB", "A0#,B1#", 0, 3, count);
        }
        refuses("(23 A11 B11)", "ABA", 12, 3);
        refuses("(23 A11 B11)", "AB", 12, 2);
        divides("(12 A11) (12 A11)", "AAAA", "A01,A02,A11,A12");
        refuses("(12 A11) (12 A11)", "A", 12, 1);
        refuses("(12 A11) (12 A11)", "AAAAA", 11, 4);
    }

    private static void passesHaveSegments() {
        Check.says("Terms", "a pass has at least one segment,");
        divides("(11 A01)", "A", "A01");
        refuses("(11 A01)", "", 12, 0);
        divides("(01 A01)", "", "");
        divides("(22 A01)", "AA", "A01,A02");
        refuses("(22 A01)", "A", 12, 1);
        refuses("(12 A01 B01)", "", 12, 0);
        refuses("(22 A01 B01)", "A", 12, 1);
        refuses("(22 A01 B01)", "ABABA", 11, 4);
        refuses("(22 A01) B01", "AB", 11, 1);
        refuses("(22 A01 B01) C01", "AC", 11, 1);
        refuses("(99 A09)", "AAAAAAAA", 12, 8);
        divides("(99 A09)", "AAAAAAAAA", "A01,A02,A03,A04,A05,A06,A07,A08,A09");
        divides("(11 A01 B01 C01)", "A", "A01");
        divides("(11 A01 B01 C01)", "B", "B11");
        divides("(11 A01 B01 C01)", "C", "C21");
        refuses("(11 A01 B01 C01)", "CA", 11, 1);
        divides("(29 B09)", "BB", "B01,B02");
        divides("(33 A09 B09)", "AAB", "A01,A02,B13");
    }

    private static void itemsOfPasses() {
        Check.says("Terms", "and is divided among the items of the loop in the same way.");
        divides("(19 A12 B23)", "ABB", "A01,B11,B11");
        divides("(19 A12 B23)", "AABBB", "A01,A01,B11,B11,B11");
        divides("(19 A12 B23)", "ABBAABBB", "A01,B11,B11,A02,A02,B12,B12,B12");
        refuses("(19 A12 B23)", "AB", 12, 2);
        refuses("(19 A12 B23)", "ABA", 11, 2);
        refuses("(19 A12 B23)", "AAA", 11, 2);
        refuses("(19 A12 B23)", "ABBBB", 11, 4);
        refuses("(19 A12 B23)", "B", 11, 0);
        divides("(19 A12 B23)", "ABBB", "A01,B11,B11,B11");
        divides("(12 A01 B22 C01)", "BBCABB", "B11,B11,C21,A02,B12,B12");
        refuses("(12 A01 B22 C01)", "AC", 11, 1);
    }

    private static void greedyItems() {
        Check.says("Terms", "If there are several ways to divide a body, the first one counts: going through the segments and "
            + "the list in order, an item takes one more segment rather than none,");
        divides("A01 A01", "A", "A00");
        divides("A03 A03", "AAAA", "A00,A00,A00,A10");
        divides("A09 A09", "AAAAAAAAAA", "A00,A00,A00,A00,A00,A00,A00,A00,A00,A10");
        divides("A01 B01 A01", "A", "A00");
        divides("(01 A01 A01)", "A", "A01");
        divides("(03 B09)", "BBB", "B01,B01,B01");
        divides("(19 A01 B01)", "AB", "A01,B11");
        divides("(19 A11 A01)", "AAA", "A01,A11,A02");
        divides("(09 A11 A02)", "AAAAA", "A01,A11,A11,A02,A12");
        divides("A01 (01 A11)", "A", "A00");
        divides("A12 (09 A12)", "AAAAA", "A00,A00,A11,A11,A12");
    }

    private static void greedyPasses() {
        Check.says("Terms", "and a loop begins another pass rather than ending,");
        divides("(01 A01) A01", "A", "A01");
        divides("(01 A01) A01", "AA", "A01,A10");
        divides("(09 A11) A01", "AAA", "A01,A02,A03");
        divides("(02 A11) (02 A11)", "AAA", "A01,A02,A11");
        divides("(09 A11 B01) A01 B01", "ABAB", "A01,B11,A02,B12");
        divides("(09 A01 B01)", "BA", "B11,A02");
        divides("(12 A01 B01) B01", "ABB", "A01,B11,B12");
        divides("(02 A11 B12 C01)", "ABBCAB", "A01,B11,B11,C21,A02,B12");
    }

    private static void whereBothLead() {
        Check.says("Terms", "wherever both could lead to a match.");
        divides("A01 A11", "A", "A10");
        divides("A01 A11", "AA", "A00,A10");
        divides("A09 A23", "AAAA", "A00,A00,A10,A10");
        divides("A02 B01 A12", "AAA", "A00,A00,A20");
        divides("A12 A02 A11", "AA", "A00,A20");
        divides("A05 A22 A11", "AAAA", "A00,A10,A10,A20");
        divides("(09 A11) A11", "AAA", "A01,A02,A10");
        divides("(09 A11 B01) A11 B11", "ABAB", "A01,B11,A20,B30");
        divides("(02 A11) (22 A11)", "AAA", "A01,A11,A12");
        divides("(01 B11) (01 A01 B01) B01", "BB", "B01,B21");
        divides("(01 A11 B11) A11 C11", "AC", "A20,C30");
        divides("(09 A11 A02) A22", "AAAAA", "A01,A11,A11,A20,A20");
        divides("(29 A11 A02) A22", "AAAA", "A01,A02,A20,A20");
        divides("(23 B09)", "BBB", "B01,B01,B02");
        divides("(22 A01 B01)", "AB", "A01,B12");
        divides("(23 A01 B01)", "AB", "A01,B12");
        divides("(22 A01 B01) B01 C01", "ABBC", "A01,B11,B12,C30");
        divides("(22 A01 B01) B01 C01", "ABC", "A01,B12,C30");
        divides("(01 A09 B11) A09", "AAA", "A20,A20,A20");
        divides("(01 A09 B11) A09", "AAB", "A01,A01,B11");
    }

    private static void longestBeginning() {
        Check.says("Terms", "If it does not match, take the greatest number of its first segments that could be the beginning "
            + "of some body that matches.");
        // One way to divide gets stuck, another one goes on.
        refuses("A02 A01 B11 C11", "AAAB", 12, 4);
        refuses("(09 A11 B11) A11 C11", "ABABA", 12, 5);
        refuses("(09 A11 B11) A11 C11", "ABABACD", 11, 6);
        refuses("(09 A11 B11) A11 C11", "ABABBC", 11, 4);
        refuses("(22 A33) B11", "AAAAA", 12, 5);
        refuses("(22 A33) B11", "AAAAB", 11, 4);
        refuses("(22 A33) B11", "AAAAAAA", 11, 6);
        refuses("(01 A11 B11) C01", "AC", 11, 1);
        refuses("(12 A01 B22) C11", "C", 11, 0);
        refuses("(12 A01 B22) C11", "BC", 11, 1);
        refuses("(12 A01 B22) C11", "BBA", 12, 3);
        refuses("(12 A01 B22) C11", "BBAC", 11, 3);
        refuses("A12 (03 B11 A09) C01", "C", 11, 0);
    }

    private static void unexpected() {
        Check.says("Terms", "11, unexpected: if that is not all of them, the fault is at the place where the next segment begins;");
        refuses("A12 B11", "C", 11, 0);
        refuses("A12 B11", "B", 11, 0);
        refuses("A12 B11", "AAC", 11, 2);
        refuses("A12 B11", "AAAB", 11, 2);
        refuses("A12 B11", "ABA", 11, 2);
        refuses("A22 B01", "AB", 11, 1);
        refuses("A01", "ABCD", 11, 1);
        refuses("A99 B99 C99", "AAAAAAAAABBBBC", 11, 13);
        Run x = new Run();
        x.addItem('A', 1, 2);
        x.addItem('B', 2, 3);
        Check.due("behind a segment with elements", Check.read(x, Check.message(1, "A+x'B'B'B'B'")), "11@14");
        Check.due("behind a released apostrophe", Check.read(x, Check.message(1, "?A+?''C+x'")), "11@10");
        Check.due("behind a longer header", Check.read(x, "H+0001'C'T+3+1'"), "11@7");
    }

    private static void missing() {
        Check.says("Terms", "12, missing: otherwise it is at the place where the trailer begins.");
        refuses("A12 B23", "", 12, 0);
        refuses("A12 B23", "A", 12, 1);
        refuses("A12 B23", "AAB", 12, 3);
        divides("A12 B23", "AABB", "A00,A00,B10,B10");
        refuses("(22 A11 B11)", "ABA", 12, 3);
        refuses("A99 B99 C99", "AAAAAAAAABBBB", 12, 13);
        Run x = new Run();
        x.addItem('A', 2, 2);
        Check.due("behind a segment with elements", Check.read(x, Check.message(1, "A+x+?''")), "12@11");
        Check.due("behind a longer header", Check.read(x, "H+0001'A'T+3+1'"), "12@9");
    }

    private static void fullBodies() {
        String most = "A".repeat(18);
        divides("(29 A29)", most, "A01,".repeat(9) + "A02,".repeat(8) + "A02");
        divides("A09 (09 A01)", most, "A00,".repeat(9) + "A11,A12,A13,A14,A15,A16,A17,A18,A19");
        divides("(09 A01 A01 A01 A01 A01 A01 A01 A01 A01 A01)", most,
            "A01,A11,A21,A31,A41,A51,A61,A71,A81,A91,A02,A12,A22,A32,A42,A52,A62,A72");
        refuses("A09 (08 A01)", most, 11, 17);
        refuses("A99 (99 A11) B11", most, 12, 18);
        refuses("A99 B99", "AAAAAAAAABBBBBBBB", 12, 17);
        refuses("A99 B88", "AAAAAAAAABBBBBBBBB", 11, 17);
    }
}
