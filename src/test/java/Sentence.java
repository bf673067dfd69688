/**
 * A sentence of the document, or a part of one, and a test that fails if it does not hold.
 * The section is the heading as far as its colon: "Terms", "Promise 2".
 */
record Sentence(String section, String text, Runnable test) {
    String name() {
        return section + ", \"" + text + "\"";
    }
}
