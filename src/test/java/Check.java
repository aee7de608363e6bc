/** What the tests have in common: due answers, due exceptions, and texts as strings. */
final class Check {
    private static int wrong = 0;
    private static int seen = 0;

    private Check() {
    }

    static void due(String what, long got, long want) {
        due(what, String.valueOf(got), String.valueOf(want));
    }

    static void due(String what, String got, String want) {
        seen++;
        if (!got.equals(want)) {
            wrong++;
            System.out.println(what + " answered " + got + ", due is " + want);
        }
    }

    static void fails(String what, Class<? extends RuntimeException> kind, Runnable call) {
        String got = "nothing";
        try {
            call.run();
        } catch (RuntimeException e) {
            got = e.getClass().getName();
        }
        due(what + " throws", got, kind.getName());
    }

    static void badArgument(String what, Runnable call) {
        fails(what, IllegalArgumentException.class, call);
    }

    static void badState(String what, Runnable call) {
        fails(what, IllegalStateException.class, call);
    }

    static void badIndex(String what, Runnable call) {
        fails(what, IndexOutOfBoundsException.class, call);
    }

    static void end() {
        System.out.println(seen + " checks, " + wrong + " wrong");
        if (wrong != 0) {
            System.exit(1);
        }
    }

    static Segmentry fed(Segmentry x, String text) {
        for (char letter : text.toCharArray()) {
            x.feed(letter);
        }
        return x;
    }

    /** Reads a text; the faults are told as "kind@place", with a blank between them. */
    static String read(Segmentry x, String text) {
        int count = fed(x, text).read();
        StringBuilder told = new StringBuilder();
        for (int fault = 0; fault < count; fault++) {
            told.append(fault == 0 ? "" : " ").append(x.faultKind(fault)).append('@').append(x.faultPlace(fault));
        }
        badIndex("the fault behind the last one of " + text, () -> x.faultKind(count));
        badIndex("the place behind the last one of " + text, () -> x.faultPlace(count));
        return told.toString();
    }

    /** A message with this body, and a right envelope. */
    static String message(int control, String body) {
        int segments = 2;
        for (int place = 0; place < body.length(); place++) {
            if (body.charAt(place) == '\'' && (place == 0 || body.charAt(place - 1) != '?')) {
                segments++;
            }
        }
        return "H+" + control + "'" + body + "T+" + segments + "+" + control + "'";
    }

    /** A body of segments without elements, with these tags. */
    static String body(String tags) {
        StringBuilder body = new StringBuilder();
        for (char tag : tags.toCharArray()) {
            body.append(tag).append('\'');
        }
        return body.toString();
    }

    /** The body of the accepted message as "tag item pass" for each segment, with commas between them. */
    static String division(Segmentry x) {
        StringBuilder told = new StringBuilder();
        for (int segment = 0; segment < x.segments(); segment++) {
            told.append(segment == 0 ? "" : ",").append(x.tag(segment)).append(x.item(segment)).append(x.pass(segment));
        }
        return told.toString();
    }

    static String content(Segmentry x, int segment, int element) {
        StringBuilder told = new StringBuilder();
        for (int index = 0; index < x.contentLength(segment, element); index++) {
            told.append(x.content(segment, element, index));
        }
        return told.toString();
    }

    static String written(Segmentry x) {
        StringBuilder told = new StringBuilder();
        for (int index = 0; index < x.written(); index++) {
            told.append(x.letter(index));
        }
        return told.toString();
    }

    static String repeat(String text, int times) {
        return text.repeat(times);
    }
}
