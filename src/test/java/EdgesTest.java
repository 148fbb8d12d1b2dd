/** Each sentence of the document's terms and promises, by its own words: what it says at its edges. */
public final class EdgesTest {
    private EdgesTest() {
    }

    public static void main(String[] args) {
        EdgesOfTelling.ask();
        EdgesOfTexts.ask();
        EdgesOfDays.ask();
        EdgesOfWays.ask();
        EdgesOfTales.ask();
        EdgesOfTables.ask();
        EdgesOfRefusals.ask();
        Edge.close("EdgesTest");
    }
}
