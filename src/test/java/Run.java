import java.lang.reflect.Field;

/**
 * A translator for a test: it has the same calls, and counts them. Nothing is promised about an object
 * after its 512th call, so a test that asks for more is wrong itself, and ends.
 */
final class Run {
    static final int MOST_CALLS = 512;

    private final Segmentry x = new Segmentry();
    private int calls = 0;

    private Segmentry next() {
        if (calls >= MOST_CALLS) {
            throw new AssertionError("the test makes a call that is free: the one behind the " + MOST_CALLS + "th");
        }
        calls++;
        return x;
    }

    int calls() {
        return calls;
    }

    /**
     * Sets how many messages the object has written: no 512 calls can write as many as the document
     * allows, so the limit can't be seen from outside.
     */
    void setWritten(int messages) {
        try {
            Field field = Segmentry.class.getDeclaredField("messagesWritten");
            field.setAccessible(true);
            field.setInt(x, messages);
        } catch (ReflectiveOperationException e) {
            throw new AssertionError(e);
        }
    }

    int addItem(char tag, int least, int most) {
        return next().addItem(tag, least, most);
    }

    void openLoop(int least, int most) {
        next().openLoop(least, most);
    }

    int closeLoop() {
        return next().closeLoop();
    }

    void clear() {
        next().clear();
    }

    int items() {
        return next().items();
    }

    int feed(char letter) {
        return next().feed(letter);
    }

    int discard() {
        return next().discard();
    }

    int length() {
        return next().length();
    }

    int read() {
        return next().read();
    }

    int faultKind(int fault) {
        return next().faultKind(fault);
    }

    int faultPlace(int fault) {
        return next().faultPlace(fault);
    }

    int control() {
        return next().control();
    }

    int segments() {
        return next().segments();
    }

    char tag(int segment) {
        return next().tag(segment);
    }

    int elements(int segment) {
        return next().elements(segment);
    }

    int contentLength(int segment, int element) {
        return next().contentLength(segment, element);
    }

    char content(int segment, int element, int index) {
        return next().content(segment, element, index);
    }

    int item(int segment) {
        return next().item(segment);
    }

    int pass(int segment) {
        return next().pass(segment);
    }

    int addRule(int item, char tag) {
        return next().addRule(item, tag);
    }

    int addField(int rule, int element) {
        return next().addField(rule, element);
    }

    void setCondition(int rule, int element, char letter) {
        next().setCondition(rule, element, letter);
    }

    int write() {
        return next().write();
    }

    int written() {
        return next().written();
    }

    char letter(int index) {
        return next().letter(index);
    }

    int feedWritten() {
        return next().feedWritten();
    }
}
