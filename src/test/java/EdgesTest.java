/** Every edge that the document names, sentence by sentence: promises 1 to 10. "EdgesTest list" tells each of them. */
final class EdgesTest {
    public static void main(String[] args) {
        if (args.length > 0 && args[0].equals("list")) {
            Edge.list();
        }
        all();
        Edge.end();
    }

    static void all() {
        FaceEdges.all();
        BytesEdges.all();
        BlockEdges.all();
        ScriptEdges.all();
        SignatureEdges.all();
        MessageEdges.all();
        SentBlockEdges.all();
        SentTransactionEdges.all();
    }
}
