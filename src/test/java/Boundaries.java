/** The boundaries that a section of the document names. */
abstract class Boundaries {
    final Sentences doc;
    final Check check;
    final Refusals refusals;

    Boundaries(Sentences doc, Check check) {
        this.doc = doc;
        this.check = check;
        refusals = new Refusals(check);
    }

    abstract void test();
}
