/** The document, sentence by sentence, from its first line to its last. */
public final class DocumentTest {
    public static void main(String[] args) {
        DocFace.run();
        DocTerms1.run();
        DocTerms2.run();
        DocTerms3.run();
        DocFlights.run();
        DocPairings.run();
        DocCovers.run();
        DocDelays.run();
        DocTexts.run();
        DocHost.run();
        if (Doc.end() != 0) System.exit(1);
    }
}
