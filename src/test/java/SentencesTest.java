/** Every sentence of the document that can be broken, with a test of its own: promises 1 to 26 and the terms. */
public final class SentencesTest {
    public static void main(String[] args) throws Exception {
        Sentences s = new Sentences();
        new LandSentences(s).test();
        new PartingSentences(s).test();
        new ClassSentences(s).test();
        new WalkSentences(s).test();
        new ChangeSentences(s).test();
        new RefusalSentences(s).test();
        s.end("SentencesTest");
    }
}
