/** Each sentence of the document with its test; a sentence without one is a fault. */
public final class SentenceTest {
    private SentenceTest() {
    }

    public static void main(String[] args) {
        Sentences.noRule("What it is", "A simulator of a repairable spare-parts network: a depot and"
                + " bases with base-stock levels, one-for-one replenishment, local and central"
                + " repair, shipments with lead times, lateral transshipment between bases, and"
                + " backorders with priorities.");
        Sentences.noRule("What it is", "An object is used for at most 512 calls after it has been"
                + " made; what later calls answer is free.");
        Sentences.noRule("The constants", "The constructor and the methods follow, a promise each:"
                + " the signature, then what it does.");
        SiteSentences.all();
        DemandSentences.all();
        DaySentences.all();
        StockSentences.all();
        FigureSentences.all();
        TextSentences.all();
        StateSentences.all();
        Sentences.tellTheRest();
        Check.end("SentenceTest");
    }
}
