/**
 * Every sentence of the document's terms and promises, with its edges: the last that is allowed and the first that
 * is not, nothing there at all, everything full, and what a refused call leaves as it was.
 */
public final class SentencesTest {
    public static void main(String[] args) {
        ConstraintEdges.all();
        FormulaEdges.all();
        ProofEdges.all();
        Doc.allIsNamed();
        Due.end();
    }
}
