/** The matching of bodies: which way to divide counts (promises 10, 19, 20), and how far a body could go. */
final class MatchTest {
    public static void main(String[] args) {
        greedyItems();
        emptyPasses();
        passesAgainstWhatFollows();
        neverEmptyPass();
        longestBeginning();
        fullBodies();
        Check.end();
    }

    /** A schema as "A01" for items and "(02 A11 B01)" for loops, with blanks between. */
    private static Segmentry with(String schema) {
        Segmentry x = new Segmentry();
        for (String word : schema.replace("(", "( ").replace(")", " )").trim().split(" +")) {
            int least = word.length() > 1 ? word.charAt(word.length() - 2) - '0' : 0;
            int most = word.charAt(word.length() - 1) - '0';
            if (word.equals(")")) {
                x.closeLoop();
            } else if (word.length() == 2) {
                x.openLoop(least, most);
            } else if (word.length() == 3) {
                x.addItem(word.charAt(0), least, most);
            }
        }
        return x;
    }

    private static void divides(String schema, String tags, String want) {
        Segmentry x = with(schema);
        String faults = Check.read(x, Check.message(1, Check.body(tags)));
        Check.due(schema + " of " + tags + ": faults", faults, "");
        if (faults.isEmpty()) {
            Check.due(schema + " of " + tags, Check.division(x), want);
        }
    }

    private static void refuses(String schema, String tags, int kind, int viable) {
        String faults = Check.read(with(schema), Check.message(1, Check.body(tags)));
        Check.due(schema + " of " + tags + ": faults", faults, kind + "@" + (4 + 2 * viable));
    }

    private static void greedyItems() {
        divides("A01 A01", "A", "A00");
        divides("A01 A11", "A", "A10");
        divides("A09 A23", "AAAA", "A00,A00,A10,A10");
        divides("A03 A03", "AAAA", "A00,A00,A00,A10");
        divides("A02 B01 A12", "AAA", "A00,A00,A20");
        divides("A12 A02 A11", "AA", "A00,A20");
        divides("A05 A22 A11", "AAAA", "A00,A10,A10,A20");
    }

    private static void emptyPasses() {
        divides("(29 B09)", "BB", "B01,B02");
        divides("(23 B09)", "BBB", "B01,B01,B02");
        divides("(03 B09)", "BBB", "B01,B01,B01");
        divides("(33 A09 B09)", "AAB", "A01,A02,B13");
        divides("(22 A01 B01)", "AB", "A01,B12");
        divides("(23 A01 B01)", "AB", "A01,B12");
        divides("(19 A01 B01)", "AB", "A01,B11");
        divides("(09 A01 B01)", "BA", "B11,A02");
        divides("(09 A01 B01)", "", "");
        refuses("(12 A01 B01)", "", 12, 0);
        refuses("(22 A01 B01)", "A", 12, 1);
        refuses("(22 A01 B01)", "ABABA", 11, 4);
    }

    private static void passesAgainstWhatFollows() {
        divides("(01 A01) A01", "A", "A01");
        divides("(01 A01) A01", "AA", "A01,A10");
        divides("(09 A11) A11", "AAA", "A01,A02,A10");
        divides("(09 A11 B01) A11 B11", "ABAB", "A01,B11,A20,B30");
        divides("(09 A11 B01) A01 B01", "ABAB", "A01,B11,A02,B12");
        divides("(02 A11) (02 A11)", "AAA", "A01,A02,A11");
        divides("(02 A11) (22 A11)", "AAA", "A01,A11,A12");
        divides("(01 B11) (01 A01 B01) B01", "BB", "B01,B21");
        divides("(09 A11 A02)", "AAAAA", "A01,A11,A11,A02,A12");
        divides("(09 A11 A02) A22", "AAAAA", "A01,A11,A11,A20,A20");
        divides("(29 A11 A02) A22", "AAAA", "A01,A02,A20,A20");
        divides("(02 A11 B12 C01)", "ABBCAB", "A01,B11,B11,C21,A02,B12");
    }

    private static void neverEmptyPass() {
        refuses("(99 A09)", "AAAAAAAA", 12, 8);
        divides("(99 A09)", "AAAAAAAAA", "A01,A02,A03,A04,A05,A06,A07,A08,A09");
        divides("(11 A01 B01 C01)", "B", "B11");
        divides("(11 A01 B01 C01)", "C", "C21");
        refuses("(11 A01 B01 C01)", "CA", 11, 1);
        refuses("(22 A01) B01", "AB", 11, 1);
        refuses("(22 A01 B01) C01", "AC", 11, 1);
        divides("(22 A01 B01) B01 C01", "ABBC", "A01,B11,B12,C30");
        divides("(22 A01 B01) B01 C01", "ABC", "A01,B12,C30");
    }

    private static void longestBeginning() {
        refuses("A12 B11", "AAC", 11, 2);
        refuses("A12 B11", "C", 11, 0);
        refuses("A12 (03 B11 A09) C01", "C", 11, 0);
        refuses("A99 B99 C99", "AAAAAAAAABBBB", 12, 13);
        refuses("A99 B99 C99", "AAAAAAAAABBBBC", 11, 13);
        // One way to divide gets stuck, another one goes on.
        refuses("A02 A01 B11 C11", "AAAB", 12, 4);
        refuses("(09 A11 B11) A11 C11", "ABABA", 12, 5);
        refuses("(09 A11 B11) A11 C11", "ABABACD", 11, 6);
        refuses("(09 A11 B11) A11 C11", "ABABBC", 11, 4);
        refuses("(22 A33) B11", "AAAAA", 12, 5);
        refuses("(22 A33) B11", "AAAAB", 11, 4);
        refuses("(22 A33) B11", "AAAAAAA", 11, 6);
        refuses("(01 A11 B11) C01", "AC", 11, 1);
        refuses("A22 B01", "AB", 11, 1);
        refuses("(12 A01 B22) C11", "C", 11, 0);
        refuses("(12 A01 B22) C11", "BC", 11, 1);
        refuses("(12 A01 B22) C11", "BBA", 12, 3);
        refuses("(12 A01 B22) C11", "BBAC", 11, 3);
    }

    private static void fullBodies() {
        String most = Check.repeat("A", 18);
        divides("(29 A29)", most, Check.repeat("A01,", 9) + Check.repeat("A02,", 8) + "A02");
        divides("A09 (09 A01)", most, Check.repeat("A00,", 9) + "A11,A12,A13,A14,A15,A16,A17,A18,A19");
        divides("(09 A01 A01 A01 A01 A01 A01 A01 A01 A01 A01)", most,
            "A01,A11,A21,A31,A41,A51,A61,A71,A81,A91,A02,A12,A22,A32,A42,A52,A62,A72");
        refuses("A09 (08 A01)", most, 11, 17);
        refuses("A99 (99 A11) B11", most, 12, 18);
    }
}
