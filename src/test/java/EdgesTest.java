/** Each sentence of the document that names an edge, as a test of its own, named by its promise's number. */
public final class EdgesTest {
    public static void main(String[] args) throws ReflectiveOperationException {
        Edges.run(EdgesOfTerms.class, EdgesOfReadings.class, EdgesOfTelling.class, EdgesOfSpans.class,
            EdgesOfProofs.class, EdgesOfChecks.class, EdgesOfCurves.class, EdgesOfSeals.class);
    }
}
