import java.io.IOException;

/**
 * Each sentence of the document that names an edge has a test of its own, which names where it stands and its words:
 * the last input that is taken, the first that is not, nothing there yet, no room left, what is cut or goes round,
 * each reason to be REFUSED, and that a REFUSED call changes nothing but what the document says.
 */
public final class EdgesTest {
    private EdgesTest() {
    }

    public static void main(String[] args) throws IOException {
        Edges.open();
        StartEdges.run();
        TermsEdges.run();
        LanguageEdges.run();
        OrdersEdges.run();
        DeedsEdges.run();
        PaperEdges.run();
        RoomCallsEdges.run();
        TextCallsEdges.run();
        DeedCallsEdges.run();
        PaperCallsEdges.run();
        KeepCallsEdges.run();
        if (!Edges.close()) {
            System.exit(1);
        }
    }
}
