import java.io.IOException;

/** The sentences of the document that name an edge, each with tests of its own. */
public final class EdgesTest {
    public static void main(String[] args) throws IOException {
        if (Doc.isThere()) {
            Doc.read();
        } else {
            System.out.println("no ../shared/DOC.md: what is quoted was not looked up");
        }
        EdgesOfCells.all();
        EdgesOfRanks.all();
        EdgesOfTexts.all();
        EdgesOfTableCalls.all();
        EdgesOfViewCalls.all();
        EdgesOfGroupCalls.all();
        EdgesOfTextCalls.all();
        EdgesOfAnswers.all();
        Doc.dueToBeQuoted();
        Checks.end();
    }
}
