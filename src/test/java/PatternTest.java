import java.util.ArrayList;
import java.util.List;
import java.util.Random;
import java.util.regex.Matcher;
import java.util.regex.Pattern;

/**
 * Compares the matching with regular expressions, on made-up schemas from fixed seeds: an expression tries
 * its ways in the order in which the document's ways to divide a body count. An item in a pass is a group,
 * and a pass is a choice of the item that has its first segment.
 */
final class PatternTest {
    private static final int SCHEMAS = 4000;
    // So the control numbers have one digit, and the body begins behind H+1'.
    private static final int BODIES = 9;
    private static final int BODY_START = 4;
    private static final int MOST_SEGMENTS = 8;

    private final Random random;
    private final Run x = new Run();
    private final StringBuilder expression = new StringBuilder();
    /** The item and the pass of each group, as Check.division tells them behind the tag. */
    private final List<String> groups = new ArrayList<>();
    private final int tags;
    private int items = 0;

    private PatternTest(int seed) {
        random = new Random(seed);
        tags = 1 + random.nextInt(3);
        int entries = random.nextInt(5);
        for (int entry = 0; entry < entries; entry++) {
            if (random.nextInt(3) == 0) {
                addItem();
            } else {
                addLoop();
            }
        }
    }

    public static void main(String[] args) {
        int[] found = new int[13];
        for (int seed = 0; seed < SCHEMAS; seed++) {
            new PatternTest(seed).bodies(found);
        }
        Check.due("bodies were divided", "" + (found[0] > 0), "true");
        Check.due("some were unexpected", "" + (found[11] > 0), "true");
        Check.due("some were missing", "" + (found[12] > 0), "true");
        Check.end();
    }

    /** The tag, the least and the greatest number of times. */
    private int[] item() {
        int most = 1 + random.nextInt(3);
        int least = random.nextBoolean() ? 0 : random.nextInt(most + 1);
        int[] item = {'A' + random.nextInt(tags), least, most};
        x.addItem((char) item[0], least, most);
        items++;
        return item;
    }

    private void group(int[] item, int least, int number, int pass) {
        groups.add("" + number + pass);
        expression.append('(').append((char) item[0]).append('{').append(least).append(',').append(item[2]).append("})");
    }

    private void addItem() {
        int[] item = item();
        group(item, item[1], items - 1, 0);
    }

    private void addLoop() {
        int most = 1 + random.nextInt(4);
        int least = random.nextInt(most + 1);
        x.openLoop(least, most);
        int first = items;
        List<int[]> list = new ArrayList<>();
        for (int item = random.nextInt(2); item >= 0; item--) {
            list.add(item());
        }
        x.closeLoop();
        for (int pass = 1; pass <= most; pass++) {
            expression.append("(?:");
            passOf(list, first, pass);
        }
        for (int pass = most; pass >= 1; pass--) {
            expression.append(pass > least ? ")?" : ")");
        }
    }

    private void passOf(List<int[]> list, int first, int pass) {
        expression.append("(?:");
        for (int beginner = 0; beginner < list.size(); beginner++) {
            expression.append(beginner > 0 ? "|" : "");
            for (int item = beginner; item < list.size(); item++) {
                int least = list.get(item)[1];
                group(list.get(item), item == beginner ? Math.max(least, 1) : least, first + item, pass);
            }
            if (list.get(beginner)[1] > 0) {
                break;
            }
        }
        expression.append(")");
    }

    private void bodies(int[] found) {
        Pattern pattern = Pattern.compile(expression.toString());
        int control = 1;
        for (int number = 0; number < BODIES && x.calls() < Run.MOST_CALLS - 100; number++) {
            StringBuilder body = new StringBuilder();
            for (int length = random.nextInt(MOST_SEGMENTS + 1); length > 0; length--) {
                body.append((char) ('A' + random.nextInt(tags + random.nextInt(2))));
            }
            String want = wanted(pattern, body.toString());
            String faults = Check.read(x, Check.message(control, Check.body(body.toString())));
            String got = faults.isEmpty() ? Check.division(x) : faults;
            Check.due(body + " by " + expression, got, want);
            boolean isFault = want.contains("@");
            found[isFault ? Integer.parseInt(want.substring(0, 2)) : 0]++;
            control += isFault ? 0 : 1;
        }
    }

    private String wanted(Pattern pattern, String body) {
        Matcher whole = pattern.matcher(body);
        if (whole.matches()) {
            return division(whole, body);
        }
        int viable = body.length();
        while (!isBeginning(pattern, body.substring(0, viable))) {
            viable--;
        }
        return (viable < body.length() ? "11@" : "12@") + (BODY_START + 2 * viable);
    }

    /** A body that came to its end while some way was still open could go on. */
    private static boolean isBeginning(Pattern pattern, String body) {
        Matcher matcher = pattern.matcher(body);
        return body.isEmpty() || matcher.matches() || matcher.hitEnd();
    }

    private String division(Matcher whole, String body) {
        String[] told = new String[body.length()];
        for (int group = 0; group < groups.size(); group++) {
            for (int place = whole.start(group + 1); place < whole.end(group + 1); place++) {
                told[place] = body.charAt(place) + groups.get(group);
            }
        }
        return String.join(",", told);
    }
}
