/** The document, sentence by sentence: each that names an edge has a test that bears its words. */
public final class EdgesTest {
    public static void main(String[] args) {
        Edge.readDocument();
        Edge.in("What it is");
        Edge.of("An object is used for at most 512 calls after it has been made; what later calls answer is free.", EdgesTest::theLastCalls);
        ReadingEdges.all();
        HandEdges.all();
        AheadEdges.all();
        NowEdges.all();
        FaceEdges.all();
        Edge.end();
    }

    /** Its 512th call is answered as all are, whatever was called ahead. */
    private static void theLastCalls() {
        OtterWrits days = Check.told("place pa water 1;rain 2 0 1;wets(date=505)*9;");
        Check.same("the fifth call", days.count(5), 0);
        for (int call = 6; call <= 511; call++) {
            days.day();
        }
        Check.same("the 512th", days.place(0, 0), 9);
        OtterWrits feeds = new OtterWrits();
        for (int call = 1; call <= 511; call++) {
            feeds.feed(-1, ' ', ' ');
        }
        Check.same("the 512th", feeds.feed(0, 0, 0), 1000);
        OtterWrits asks = Check.told("place pa water 1;rain 2;");
        for (int call = 4; call <= 511; call++) {
            Check.same("the answer of call " + call, asks.later(0, call % 61), Math.min(9, 1 + call % 61));
        }
        Check.same("the 512th", asks.crest(0), 8);
    }
}
