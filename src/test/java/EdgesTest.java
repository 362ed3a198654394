/** Each sentence of the document that names a boundary has a test here, under its promise; -Dedges.left=1 tells what no test quotes. */
public final class EdgesTest {
    public static void main(String[] args) throws Exception {
        EdgesOfPeople.all();
        EdgesOfTexts.all();
        EdgesOfHours.all();
        EdgesOfTalks.all();
        EdgesOfGifts.all();
        EdgesOfImages.all();
        if (Edges.report() != 0) System.exit(1);
    }
}
