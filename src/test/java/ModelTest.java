import java.util.NoSuchElementException;
import java.util.Random;
import java.util.function.Supplier;

/** Compares the class with the model in runs of calls that are made up from fixed seeds. */
final class ModelTest {
    private static final int RUNS = 6000;
    private static final int CALLS = 512;
    private static final char[] EDGES = {0, 31, 32, 39, 43, 63, 64, 65, 72, 84, 90, 91, 126, 127, 255, 65535};
    private static final int[] WILD = {-1, 0, 1, 2, 4, 5, 9, 10, 20, 300, Integer.MIN_VALUE, Integer.MAX_VALUE};

    private static int wrong = 0;
    private static int[] kinds = new int[13];
    private static int accepted = 0;
    private static int translated = 0;
    private static int refused = 0;

    private final Random random;
    private final int run;
    private final Segmentry x = new Segmentry();
    private final Model model = new Model();
    private int calls = 0;

    private ModelTest(int run) {
        this.run = run;
        random = new Random(run);
    }

    public static void main(String[] args) {
        for (int run = 0; run < RUNS && wrong == 0; run++) {
            new ModelTest(run).calls();
        }
        System.out.println(RUNS + " runs, " + accepted + " messages accepted, " + translated + " translated, "
            + refused + " not written, " + wrong + " answers wrong");
        for (int kind = 1; kind <= 12; kind++) {
            if (kinds[kind] == 0) {
                wrong++;
                System.out.println("no run had a fault of kind " + kind);
            }
        }
        if (wrong != 0) {
            System.exit(1);
        }
    }

    private static String answer(Supplier<Object> call) {
        try {
            return String.valueOf(call.get());
        } catch (IndexOutOfBoundsException e) {
            return shortName(e, IndexOutOfBoundsException.class);
        } catch (IllegalArgumentException e) {
            return shortName(e, IllegalArgumentException.class);
        } catch (IllegalStateException e) {
            return shortName(e, IllegalStateException.class);
        } catch (NoSuchElementException e) {
            return shortName(e, NoSuchElementException.class);
        } catch (RuntimeException e) {
            return e.toString();
        }
    }

    private static String shortName(RuntimeException e, Class<?> exactly) {
        return e.getClass() == exactly ? "!" + exactly.getSimpleName().replace("Exception", "") : e.toString();
    }

    private String same(String call, Supplier<Object> got, String want) {
        // Nothing is promised behind the last call.
        if (calls >= CALLS) {
            return want;
        }
        calls++;
        String answer = answer(got);
        if (!answer.equals(want) && wrong < 20) {
            wrong++;
            System.out.println("run " + run + ", call " + calls + ": " + call + " answered " + answer + ", due is " + want);
        }
        return answer;
    }

    private boolean chance(int percent) {
        return random.nextInt(100) < percent;
    }

    private void calls() {
        schema();
        while (calls < CALLS - 1 && wrong == 0) {
            int what = random.nextInt(100);
            if (what < 45) {
                message();
            } else if (what < 60) {
                rules();
            } else if (what < 75) {
                writing();
            } else if (what < 95) {
                wild();
            } else if (what < 97) {
                same("discard", () -> x.discard(), model.discard());
            } else {
                same("clear", () -> { x.clear(); return ""; }, model.clear());
                schema();
            }
        }
    }

    private void schema() {
        int entries = random.nextInt(5);
        for (int entry = 0; entry < entries; entry++) {
            boolean loop = chance(50);
            if (loop) {
                openLoop();
            }
            int items = loop ? 1 + random.nextInt(3) : 1;
            for (int item = 0; item < items; item++) {
                addItem();
            }
            if (loop) {
                same("closeLoop", () -> x.closeLoop(), model.closeLoop());
            }
        }
        rules();
    }

    private int least() {
        return chance(90) ? random.nextInt(3) : random.nextInt(10);
    }

    private int most(int least) {
        return Math.min(9, Math.max(1, least + random.nextInt(chance(80) ? 3 : 9)));
    }

    private void addItem() {
        char tag = "ABCABCZ".charAt(random.nextInt(7));
        int least = least();
        int most = most(least);
        same("addItem " + tag + least + most, () -> x.addItem(tag, least, most), model.addItem(tag, least, most));
    }

    private void openLoop() {
        int least = least();
        int most = most(least);
        same("openLoop " + least + most, () -> { x.openLoop(least, most); return ""; }, model.openLoop(least, most));
    }

    private void rules() {
        int count = random.nextInt(4);
        for (int number = 0; number < count; number++) {
            int item = random.nextInt(Math.max(1, model.items.size()));
            char tag = "ABC".charAt(random.nextInt(3));
            same("addRule", () -> x.addRule(item, tag), model.addRule(item, tag));
            int rule = Math.max(0, model.rules.size() - 1);
            int fields = random.nextInt(7);
            for (int field = 0; field < fields; field++) {
                int element = random.nextInt(chance(70) ? 2 : 5);
                same("addField", () -> x.addField(rule, element), model.addField(rule, element));
            }
            if (chance(40)) {
                int element = random.nextInt(2);
                char letter = "1ab+?'".charAt(random.nextInt(6));
                same("setCondition", () -> { x.setCondition(rule, element, letter); return ""; },
                    model.setCondition(rule, element, letter));
            }
        }
    }

    private void message() {
        String text = text();
        if (chance(25)) {
            text = damaged(text);
        }
        // A run is too short for many long texts: most are fed whole, some in part.
        if (calls + text.length() > CALLS - 10) {
            calls = CALLS;
            return;
        }
        for (char letter : text.toCharArray()) {
            same("feed " + letter, () -> x.feed(letter), model.feed(letter));
        }
        reading();
    }

    private void reading() {
        String before = model.text;
        String faults = same("read of " + before, () -> x.read(), model.read());
        if (faults.equals("0")) {
            accepted++;
        }
        int count = faults.startsWith("!") ? 0 : Integer.parseInt(faults);
        for (int fault = 0; fault <= count && fault < 6; fault++) {
            int number = count > 6 ? random.nextInt(count + 1) : fault;
            String kind = same("faultKind " + number + " of " + before, () -> x.faultKind(number), model.fault(number, 0));
            same("faultPlace " + number + " of " + before, () -> x.faultPlace(number), model.fault(number, 1));
            if (!kind.startsWith("!")) {
                kinds[Integer.parseInt(kind)]++;
            }
        }
        same("control", () -> x.control(), model.control());
        String segments = same("segments", () -> x.segments(), model.segments());
        for (int segment = 0; faults.equals("0") && segment < Integer.parseInt(segments); segment++) {
            int number = segment;
            same("item " + number + " of " + before, () -> x.item(number), model.item(number));
            same("pass " + number + " of " + before, () -> x.pass(number), model.pass(number));
        }
    }

    private String text() {
        int number = chance(90) ? (model.control == null ? 0 : model.control) + 1 : random.nextInt(10000);
        StringBuilder body = new StringBuilder();
        int count = 2;
        String tags = chance(85) ? derived() : anyTags();
        for (char tag : tags.toCharArray()) {
            body.append(tag);
            int elements = random.nextInt(chance(80) ? 3 : 7);
            for (int element = 0; element < elements; element++) {
                body.append('+').append(anyContent());
            }
            body.append('\'');
            count++;
        }
        int told = chance(97) ? count : random.nextInt(30);
        int last = chance(97) ? number : random.nextInt(100);
        String header = (chance(5) ? "H+00" : "H+") + number + "'";
        return header + body + "T+" + told + "+" + last + "'";
    }

    private String anyTags() {
        StringBuilder tags = new StringBuilder();
        int count = random.nextInt(chance(80) ? 6 : 22);
        for (int number = 0; number < count; number++) {
            tags.append("AABBCCZHT".charAt(random.nextInt(9)));
        }
        return tags.toString();
    }

    private String anyContent() {
        StringBuilder content = new StringBuilder();
        int count = random.nextInt(chance(95) ? 3 : 11);
        for (int number = 0; number < count; number++) {
            String[] letters = {"1", "a", "b", "?+", "??", "?'", "?a", " ", "~"};
            content.append(letters[random.nextInt(letters.length)]);
        }
        return content.toString();
    }

    /** The tags of a body that matches the schema, sometimes cut or with one tag too many. */
    private String derived() {
        StringBuilder tags = new StringBuilder();
        for (Model.Entry entry : model.entries) {
            int passes = entry.loop ? entry.least + random.nextInt(entry.most - entry.least + 1) : 1;
            for (int pass = 0; pass < passes; pass++) {
                for (int number : entry.items) {
                    Model.Item item = model.items.get(number);
                    int spread = Math.min(item.most - item.least, chance(80) ? 2 : 9);
                    tags.append(("" + item.tag).repeat(item.least + random.nextInt(spread + 1)));
                }
            }
        }
        if (tags.length() > 18 && chance(95)) {
            tags.setLength(18);
        }
        if (tags.length() > 0 && chance(15)) {
            tags.setLength(random.nextInt(tags.length()));
        }
        if (chance(15)) {
            tags.insert(random.nextInt(tags.length() + 1), "ABCZ".charAt(random.nextInt(4)));
        }
        return tags.toString();
    }

    private String damaged(String text) {
        StringBuilder damaged = new StringBuilder(text);
        int changes = 1 + random.nextInt(4);
        for (int change = 0; change < changes && damaged.length() > 0; change++) {
            int place = random.nextInt(damaged.length());
            char letter = "+'?HTA19x'+".charAt(random.nextInt(11));
            int how = random.nextInt(3);
            if (how == 0) {
                damaged.deleteCharAt(place);
            } else if (how == 1) {
                damaged.insert(place, letter);
            } else {
                damaged.setCharAt(place, letter);
            }
        }
        return damaged.toString();
    }

    private void writing() {
        String length = same("write", () -> x.write(), model.write());
        if (length.startsWith("!")) {
            refused += model.accepted == null ? 0 : 1;
        } else {
            translated++;
        }
        same("written", () -> x.written(), "" + model.written.length());
        for (int index = 0; index < model.written.length() && index < 40; index++) {
            int number = model.written.length() > 40 ? random.nextInt(model.written.length()) : index;
            same("letter " + number + " of " + model.written, () -> (int) x.letter(number), model.letter(number));
        }
        if (chance(50)) {
            same("feedWritten", () -> x.feedWritten(), model.feedWritten());
            if (chance(50)) {
                reading();
            }
        }
    }

    private int wildInt() {
        return chance(70) ? random.nextInt(6) : WILD[random.nextInt(WILD.length)];
    }

    private char wildChar() {
        return EDGES[random.nextInt(EDGES.length)];
    }

    private void wild() {
        int a = wildInt();
        int b = wildInt();
        int c = wildInt();
        char letter = wildChar();
        String with = " of " + a + ", " + b + ", " + c + ", " + (int) letter;
        switch (random.nextInt(22)) {
            case 0: same("addItem" + with, () -> x.addItem(letter, a, b), model.addItem(letter, a, b)); break;
            case 1: same("openLoop" + with, () -> { x.openLoop(a, b); return ""; }, model.openLoop(a, b)); break;
            case 2: case 3: case 4: case 5:
                same("closeLoop", () -> x.closeLoop(), model.closeLoop()); break;
            case 6: same("items", () -> x.items(), "" + model.items.size()); break;
            case 7: same("feed" + with, () -> x.feed(letter), model.feed(letter)); break;
            case 8: same("length", () -> x.length(), "" + model.text.length()); break;
            case 9: same("faultKind" + with, () -> x.faultKind(a), model.fault(a, 0)); break;
            case 10: same("faultPlace" + with, () -> x.faultPlace(a), model.fault(a, 1)); break;
            case 11: same("tag" + with, () -> (int) x.tag(a), model.tag(a)); break;
            case 12: same("elements" + with, () -> x.elements(a), model.elements(a)); break;
            case 13: same("contentLength" + with, () -> x.contentLength(a, b), model.contentLength(a, b)); break;
            case 14: case 15:
                same("content" + with, () -> (int) x.content(a, b, c), model.content(a, b, c)); break;
            case 16: same("item" + with, () -> x.item(a), model.item(a)); break;
            case 17: same("pass" + with, () -> x.pass(a), model.pass(a)); break;
            case 18: same("addRule" + with, () -> x.addRule(a, letter), model.addRule(a, letter)); break;
            case 19: same("addField" + with, () -> x.addField(a, b), model.addField(a, b)); break;
            case 20:
                same("setCondition" + with, () -> { x.setCondition(a, b, letter); return ""; },
                    model.setCondition(a, b, letter));
                break;
            default: same("letter" + with, () -> (int) x.letter(a), model.letter(a)); break;
        }
    }
}
