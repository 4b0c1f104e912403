/** The document from its first line to its last: every edge that it names. "EdgesTest list" tells each of them. */
final class EdgesTest {
    public static void main(String[] args) {
        if (args.length > 0 && args[0].equals("list")) {
            Edge.list();
        }
        all();
        Edge.end();
    }

    static void all() {
        WholeEdges.all();
        FaceEdges.all();
        BytesEdges.all();
        BlockEdges.all();
        ScriptEdges.all();
        SignatureEdges.all();
        MessageEdges.all();
        SentBlockEdges.all();
        SentTransactionEdges.all();
    }
}
