/** Each sentence of the document's terms and promises, by its own words: what it says at its edges. */
public final class EdgesTest {
    private EdgesTest() {
    }

    static void ask() {
        Runnable[][] all = {EdgesOfTelling.parts(), EdgesOfTexts.parts(), EdgesOfDays.parts(), EdgesOfWays.parts(),
            EdgesOfTales.parts(), EdgesOfTables.parts(), EdgesOfRefusals.parts()};
        for (Runnable[] parts : all) {
            for (Runnable part : parts) {
                Edge.ask(part);
            }
        }
    }

    public static void main(String[] args) {
        ask();
        Edge.close("EdgesTest");
    }
}
