/**
 * All promises: each sentence of the document that names an edge has a test of its own, on both
 * sides of the edge where there are two. An answer that is not due is told with its sentence.
 */
public final class EdgesTest {
    public static void main(String[] args) throws Exception {
        EdgesOfText.run();
        EdgesOfTown.run();
        EdgesOfWalk.run();
        EdgesOfSongs.run();
        EdgesOfEar.run();
        EdgesOfRounds.run();
        EdgesOfSlots.run();
        EdgesOfRefusals.run();
        Sentences.checkAll();
        Check.end("EdgesTest");
    }
}
