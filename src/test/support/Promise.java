import java.util.function.Consumer;

/** A section of the document; each of its sentences that names a boundary has tests of its own. */
public final class Promise {
    private final String section;
    private final Due due = new Due();

    public Promise(String section) {
        this.section = section;
    }

    /** One case of a sentence, quoted as the document has it. */
    public void says(String sentence, String which, Consumer<Due> test) {
        due.in(section + ", \"" + sentence + "\", " + which, () -> test.accept(due));
    }

    public void finish() {
        due.finish();
    }
}
