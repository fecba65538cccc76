import java.io.IOException;

/** Promises 1 to 32 and the Terms, sentence by sentence: each at its edges and one step to either side of them. */
public final class EdgesTest {
    public static void main(String[] args) throws IOException {
        Sentences s = new Sentences();
        EdgesOfTape.test(s);
        EdgesOfLine.test(s);
        EdgesOfRule.test(s);
        EdgesOfLooking.test(s);
        EdgesOfGoing.test(s);
        EdgesOfDoing.test(s);
        EdgesOfSearch.test(s);
        EdgesOfTogether.test(s);
        EdgesOfImages.test(s);
        s.close();
    }
}
