import java.util.ArrayList;
import java.util.List;
import java.util.NoSuchElementException;

/** What the tests have in common: due answers, due exceptions, and texts as strings. */
final class Check {
    /** The sentences that were named so far, each with its section before it. */
    static final List<String[]> NAMED = new ArrayList<>();

    private static int wrong = 0;
    private static int seen = 0;
    private static int seenBefore = 0;

    private Check() {
    }

    /** Names the sentence of the document, or the part of one, that the checks from here on look at. */
    static void says(String section, String sentence) {
        endSentence();
        NAMED.add(new String[] {section, sentence});
    }

    private static void endSentence() {
        if (!NAMED.isEmpty() && seen == seenBefore) {
            wrong("has no check");
        }
        seenBefore = seen;
    }

    private static void wrong(String what) {
        wrong++;
        String[] named = NAMED.isEmpty() ? null : NAMED.get(NAMED.size() - 1);
        System.out.println((named == null ? "" : named[0] + ", \"" + named[1] + "\": ") + what);
    }

    static void due(String what, long got, long want) {
        due(what, String.valueOf(got), String.valueOf(want));
    }

    static void due(String what, String got, String want) {
        seen++;
        if (!got.equals(want)) {
            wrong(what + " answered " + got + ", due is " + want);
        }
    }

    static void fails(String what, Class<? extends RuntimeException> kind, Runnable call) {
        String got = "nothing";
        try {
            call.run();
        } catch (RuntimeException e) {
            got = e.getClass().getName();
        }
        due(what + " throws", got, kind.getName());
    }

    static void badArgument(String what, Runnable call) {
        fails(what, IllegalArgumentException.class, call);
    }

    static void badState(String what, Runnable call) {
        fails(what, IllegalStateException.class, call);
    }

    static void badIndex(String what, Runnable call) {
        fails(what, IndexOutOfBoundsException.class, call);
    }

    static void noElement(String what, Runnable call) {
        fails(what, NoSuchElementException.class, call);
    }

    static void end() {
        endSentence();
        System.out.println(seen + " checks, " + wrong + " wrong");
        if (wrong != 0) {
            System.exit(1);
        }
    }

    static Run fed(Run x, String text) {
        for (char letter : text.toCharArray()) {
            x.feed(letter);
        }
        return x;
    }

    /** Reads a text; the faults are told as "kind@place", with a blank between them. */
    static String read(Run x, String text) {
        int count = fed(x, text).read();
        StringBuilder told = new StringBuilder();
        for (int fault = 0; fault < count; fault++) {
            told.append(fault == 0 ? "" : " ").append(x.faultKind(fault)).append('@').append(x.faultPlace(fault));
        }
        return told.toString();
    }

    /** The faults of a text that a new object reads. */
    static void faults(String text, String want) {
        due("faults of " + text, read(new Run(), text), want);
    }

    static void accepts(Run x, String text) {
        due("faults of " + text, read(x, text), "");
    }

    /** A message with this body, and a right envelope. */
    static String message(int control, String body) {
        int segments = 2;
        for (int place = 0; place < body.length(); place++) {
            if (body.charAt(place) == '?') {
                place++;
            } else if (body.charAt(place) == '\'') {
                segments++;
            }
        }
        return "H+" + control + "'" + body + "T+" + segments + "+" + control + "'";
    }

    /** A body of segments without elements, with these tags. */
    static String body(String tags) {
        StringBuilder body = new StringBuilder();
        for (char tag : tags.toCharArray()) {
            body.append(tag).append('\'');
        }
        return body.toString();
    }

    /** The body of the accepted message as "tag item pass" for each segment, with commas between them. */
    static String division(Run x) {
        StringBuilder told = new StringBuilder();
        int count = x.segments();
        for (int segment = 0; segment < count; segment++) {
            told.append(segment == 0 ? "" : ",").append(x.tag(segment)).append(x.item(segment)).append(x.pass(segment));
        }
        return told.toString();
    }

    static String content(Run x, int segment, int element) {
        StringBuilder told = new StringBuilder();
        int length = x.contentLength(segment, element);
        for (int index = 0; index < length; index++) {
            told.append(x.content(segment, element, index));
        }
        return told.toString();
    }

    static String written(Run x) {
        StringBuilder told = new StringBuilder();
        int length = x.written();
        for (int index = 0; index < length; index++) {
            told.append(x.letter(index));
        }
        return told.toString();
    }

    /** Writes, and tells what was written. */
    static void writes(Run x, String want) {
        due("write of " + want, x.write(), want.length());
        due("what was written", written(x), want);
    }
}
