import java.util.ArrayList;
import java.util.HashMap;
import java.util.List;
import java.util.Map;

/**
 * The document told a second time, as plainly as the whole Java library allows, to compare the class
 * with. An answer is a string; an exception is answered as "!" and its short name.
 */
final class Model {
    static final class Item {
        char tag;
        int least;
        int most;
    }

    static final class Entry {
        boolean loop;
        int least;
        int most;
        List<Integer> items = new ArrayList<>();
    }

    static final class Seg {
        int start;
        String tag = "";
        List<String> elements = new ArrayList<>();
        List<Integer> starts = new ArrayList<>();
        int item;
        int pass;
    }

    static final class Rule {
        int item;
        char tag;
        List<Integer> fields = new ArrayList<>();
        int element = -1;
        char letter;
    }

    final List<Item> items = new ArrayList<>();
    final List<Entry> entries = new ArrayList<>();
    final List<Rule> rules = new ArrayList<>();
    boolean open = false;
    String text = "";
    List<int[]> faults = new ArrayList<>();
    List<Seg> accepted = null;
    Integer control = null;
    String written = "";
    int writings = 0;

    String addItem(char tag, int least, int most) {
        if ("ABCDEFGIJKLMNOPQRSUVWXYZ".indexOf(tag) < 0 || badTimes(least, most)) {
            return "!IllegalArgument";
        }
        if (items.size() == 10) {
            return "!IllegalState";
        }
        Item item = new Item();
        item.tag = tag;
        item.least = least;
        item.most = most;
        if (!open) {
            entries.add(new Entry());
        }
        entries.get(entries.size() - 1).items.add(items.size());
        items.add(item);
        return "" + (items.size() - 1);
    }

    String openLoop(int least, int most) {
        if (badTimes(least, most)) {
            return "!IllegalArgument";
        }
        if (open) {
            return "!IllegalState";
        }
        Entry entry = new Entry();
        entry.loop = true;
        entry.least = least;
        entry.most = most;
        entries.add(entry);
        open = true;
        return "";
    }

    String closeLoop() {
        if (!open || entries.get(entries.size() - 1).items.isEmpty()) {
            return "!IllegalState";
        }
        open = false;
        return "" + entries.get(entries.size() - 1).items.size();
    }

    String clear() {
        items.clear();
        entries.clear();
        rules.clear();
        open = false;
        accepted = null;
        return "";
    }

    String feed(char letter) {
        if (letter < 32 || letter > 126) {
            return "!IllegalArgument";
        }
        if (text.length() == 300) {
            return "!IllegalState";
        }
        text += letter;
        return "" + text.length();
    }

    String discard() {
        String had = "" + text.length();
        text = "";
        return had;
    }

    String read() {
        if (open) {
            return "!IllegalState";
        }
        faults = new ArrayList<>();
        List<Seg> read = split();
        if (faults.isEmpty()) {
            envelope(read);
        }
        if (faults.isEmpty()) {
            numbers(read);
        }
        if (faults.isEmpty()) {
            body(read);
        }
        faults.sort((a, b) -> a[1] != b[1] ? a[1] - b[1] : a[0] - b[0]);
        if (faults.isEmpty()) {
            control = Integer.parseInt(read.get(0).elements.get(0));
            accepted = read.subList(1, read.size() - 1);
        }
        text = "";
        return "" + faults.size();
    }

    String fault(int number, int which) {
        return number < 0 || number >= faults.size() ? "!IndexOutOfBounds" : "" + faults.get(number)[which];
    }

    String control() {
        return control == null ? "!NoSuchElement" : "" + control;
    }

    String segments() {
        return accepted == null ? "!IllegalState" : "" + accepted.size();
    }

    String wrongSegment(int segment) {
        if (accepted == null) {
            return "!IllegalState";
        }
        return segment < 0 || segment >= accepted.size() ? "!IndexOutOfBounds" : null;
    }

    String tag(int segment) {
        String wrong = wrongSegment(segment);
        return wrong != null ? wrong : "" + (int) accepted.get(segment).tag.charAt(0);
    }

    String elements(int segment) {
        String wrong = wrongSegment(segment);
        return wrong != null ? wrong : "" + accepted.get(segment).elements.size();
    }

    String item(int segment) {
        String wrong = wrongSegment(segment);
        return wrong != null ? wrong : "" + accepted.get(segment).item;
    }

    String pass(int segment) {
        String wrong = wrongSegment(segment);
        return wrong != null ? wrong : "" + accepted.get(segment).pass;
    }

    String contentLength(int segment, int element) {
        String wrong = wrongSegment(segment);
        if (wrong != null) {
            return wrong;
        }
        List<String> all = accepted.get(segment).elements;
        return element < 0 || element >= all.size() ? "!IndexOutOfBounds" : "" + all.get(element).length();
    }

    String content(int segment, int element, int index) {
        String length = contentLength(segment, element);
        if (length.startsWith("!")) {
            return length;
        }
        if (index < 0 || index >= Integer.parseInt(length)) {
            return "!IndexOutOfBounds";
        }
        return "" + (int) accepted.get(segment).elements.get(element).charAt(index);
    }

    String addRule(int item, char tag) {
        if (item < 0 || item >= items.size()) {
            return "!IndexOutOfBounds";
        }
        if ("ABCDEFGIJKLMNOPQRSUVWXYZ".indexOf(tag) < 0) {
            return "!IllegalArgument";
        }
        if (rules.size() == 10) {
            return "!IllegalState";
        }
        Rule rule = new Rule();
        rule.item = item;
        rule.tag = tag;
        rules.add(rule);
        return "" + (rules.size() - 1);
    }

    String addField(int rule, int element) {
        if (rule < 0 || rule >= rules.size()) {
            return "!IndexOutOfBounds";
        }
        if (element < 0 || element > 4) {
            return "!IllegalArgument";
        }
        List<Integer> fields = rules.get(rule).fields;
        if (fields.size() == 5) {
            return "!IllegalState";
        }
        fields.add(element);
        return "" + fields.size();
    }

    String setCondition(int rule, int element, char letter) {
        if (rule < 0 || rule >= rules.size()) {
            return "!IndexOutOfBounds";
        }
        if (element < 0 || element > 4 || letter < 32 || letter > 126) {
            return "!IllegalArgument";
        }
        rules.get(rule).element = element;
        rules.get(rule).letter = letter;
        return "";
    }

    String write() {
        if (accepted == null || writings == 9999) {
            return "!IllegalState";
        }
        int number = writings + 1;
        String message = "H+" + number + "'";
        int count = 2;
        for (Seg segment : accepted) {
            for (Rule rule : rules) {
                if (rule.item == segment.item && holds(rule, segment)) {
                    message += translated(rule, segment);
                    count++;
                }
            }
        }
        message += "T+" + count + "+" + number + "'";
        if (count > 20 || message.length() > 300) {
            return "!IllegalState";
        }
        writings++;
        written = message;
        return "" + message.length();
    }

    String letter(int index) {
        return index < 0 || index >= written.length() ? "!IndexOutOfBounds" : "" + (int) written.charAt(index);
    }

    String feedWritten() {
        if (text.length() + written.length() > 300) {
            return "!IllegalState";
        }
        text += written;
        return "" + text.length();
    }

    private static boolean badTimes(int least, int most) {
        return least < 0 || least > 9 || most < 1 || most > 9 || most < least;
    }

    private static boolean holds(Rule rule, Seg segment) {
        return rule.element < 0 || rule.element < segment.elements.size()
            && segment.elements.get(rule.element).startsWith("" + rule.letter);
    }

    private static String translated(Rule rule, Seg segment) {
        String line = "" + rule.tag;
        for (int element : rule.fields) {
            String content = element < segment.elements.size() ? segment.elements.get(element) : "";
            line += "+" + content.replaceAll("[?+']", "?$0");
        }
        return line + "'";
    }

    private void found(int kind, int place) {
        faults.add(new int[] {kind, place});
    }

    private List<Seg> split() {
        List<Seg> all = new ArrayList<>();
        Seg now = new Seg();
        String part = "";
        int partStart = 0;
        boolean empty = true;
        for (int place = 0; place < text.length(); place++) {
            char letter = text.charAt(place);
            if (all.size() == 20) {
                break;
            }
            empty = false;
            if (letter == '?') {
                place++;
                part += place < text.length() ? text.substring(place, place + 1) : "";
            } else if (letter == '+' || letter == '\'') {
                now.elements.add(part);
                now.starts.add(partStart);
                part = "";
                partStart = place + 1;
                if (letter == '\'') {
                    all.add(now);
                    now = new Seg();
                    now.start = place + 1;
                    empty = true;
                }
            } else {
                part += letter;
            }
        }
        if (all.size() == 20 && now.start < text.length()) {
            found(5, now.start);
        } else if (!empty) {
            found(1, now.start);
        }
        for (Seg segment : all) {
            checkParts(segment);
        }
        return all;
    }

    private void checkParts(Seg segment) {
        segment.tag = segment.elements.remove(0);
        segment.starts.remove(0);
        if (!segment.tag.matches("[A-Z]")) {
            found(2, segment.start);
        }
        for (int element = 0; element < segment.elements.size() && element < 5; element++) {
            if (segment.elements.get(element).length() > 8) {
                found(4, segment.starts.get(element));
            }
        }
        if (segment.elements.size() > 5) {
            found(3, segment.starts.get(5));
        }
    }

    private static boolean isEnvelope(Seg segment, String tag, int count) {
        return segment.tag.equals(tag) && segment.elements.size() == count
            && segment.elements.stream().allMatch(e -> e.matches("[0-9]{1,4}"));
    }

    private void envelope(List<Seg> all) {
        if (all.isEmpty() || !isEnvelope(all.get(0), "H", 1)) {
            found(6, 0);
        }
        if (all.size() < 2 || !isEnvelope(all.get(all.size() - 1), "T", 2)) {
            found(7, all.isEmpty() ? 0 : all.get(all.size() - 1).start);
        }
    }

    private void numbers(List<Seg> all) {
        Seg trailer = all.get(all.size() - 1);
        int number = Integer.parseInt(all.get(0).elements.get(0));
        if (Integer.parseInt(trailer.elements.get(0)) != all.size()) {
            found(8, trailer.start);
        }
        if (Integer.parseInt(trailer.elements.get(1)) != number) {
            found(9, trailer.start);
        }
        if (control != null && number != control + 1) {
            found(10, 0);
        }
    }

    private void body(List<Seg> all) {
        List<Seg> body = all.subList(1, all.size() - 1);
        Search whole = new Search(body, false);
        if (whole.from(0, 0, -1, 0, false, 0)) {
            return;
        }
        int most = body.size();
        while (!new Search(body.subList(0, most), true).from(0, 0, -1, 0, false, 0)) {
            most--;
        }
        if (most < body.size()) {
            found(11, body.get(most).start);
        } else {
            found(12, all.get(all.size() - 1).start);
        }
    }

    /**
     * Tries the ways to divide a body in the order in which they count. If it may go on, any segments
     * may stand behind those of the body.
     */
    private final class Search {
        final List<Seg> body;
        final boolean mayGoOn;
        final Map<String, Boolean> seen = new HashMap<>();

        Search(List<Seg> body, boolean mayGoOn) {
            this.body = body;
            this.mayGoOn = mayGoOn;
        }

        /** The position -1 is outside of a pass; an item in no loop is at position 0 of its entry. */
        boolean from(int entry, int passes, int position, int times, boolean some, int place) {
            String key = entry + "," + passes + "," + position + "," + times + "," + some + "," + place;
            Boolean known = seen.get(key);
            if (known == null) {
                known = search(entry, passes, position, times, some, place);
                seen.put(key, known);
            }
            return known;
        }

        private boolean search(int entry, int passes, int position, int times, boolean some, int place) {
            if (entry == entries.size()) {
                return place == body.size();
            }
            Entry now = entries.get(entry);
            if (position < 0) {
                if (!now.loop) {
                    return from(entry, 0, 0, 0, false, place);
                }
                return passes < now.most && from(entry, passes + 1, 0, 0, false, place)
                    || passes >= now.least && from(entry + 1, 0, -1, 0, false, place);
            }
            if (position == now.items.size()) {
                if (!now.loop) {
                    return from(entry + 1, 0, -1, 0, false, place);
                }
                return some && from(entry, passes, -1, 0, false, place);
            }
            int number = now.items.get(position);
            Item item = items.get(number);
            if (times < item.most && takes(item, place)
                && from(entry, passes, position, times + 1, true, Math.min(place + 1, body.size()))) {
                if (place < body.size()) {
                    body.get(place).item = number;
                    body.get(place).pass = now.loop ? passes : 0;
                }
                return true;
            }
            return times >= item.least && from(entry, passes, position + 1, 0, some, place);
        }

        private boolean takes(Item item, int place) {
            return place < body.size() ? body.get(place).tag.equals("" + item.tag) : mayGoOn;
        }
    }
}
