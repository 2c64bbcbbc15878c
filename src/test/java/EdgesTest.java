import java.io.IOException;

/**
 * The document, sentence by sentence: every sentence of its terms, its face and its promises has a test that
 * names the promise and the sentence, and at its edges would fail if the sentence were broken.
 */
public final class EdgesTest {
    public static void main(String[] args) throws IOException {
        Doc.open();
        FaceEdges.all();
        TextEdges.all();
        RunEdges.all();
        DrawnEdges.all();
        MergeEdges.all();
        PlayEdges.all();
        ReplyEdges.all();
        Doc.close();
        Kit.finish("EdgesTest");
    }
}
