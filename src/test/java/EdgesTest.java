/** Each boundary case that the document names, promise by promise, with the sentence that names it. */
public final class EdgesTest {
    public static void main(String[] args) {
        EdgesOfTrays.all();
        EdgesOfVillages.all();
        EdgesOfWhatIsTold.all();
        EdgesOfDoing.all();
        EdgesOfJoins.all();
        EdgesAhead.all();
        EdgesOfWhatMayBe.all();
        EdgesOfOrders.all();
        EdgesOfRuns.all();
        EdgesOfMarks.all();
        EdgesOfRefusals.all();
        everySentenceIsNamed();
        Check.end("EdgesTest");
    }

    private static void everySentenceIsNamed() {
        Check.because("");
        for (int promise = 1; promise <= Doc.PROMISES; promise++) {
            Check.due("promise " + promise + " has edges", Doc.hasEdges(promise), true);
        }
        String left = Doc.leftOut();
        Check.due("all sentences are named; left are: " + left, left.equals("|"), true);
    }
}
