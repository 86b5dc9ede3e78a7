/** Runs every test of the project in one go. */
public final class AllTests {
    private AllTests() {
    }

    public static void main(String[] args) throws Exception {
        FaceTest.run();
        RulesTest.run();
        ReadmeTest.run();
        LettersTest.run();
        HandTest.run();
        MindTest.run();
        ChoicesTest.run();
        OddsTest.run();
        GoneByTest.run();
        RowTest.run();
        BoundsTest.run();
        EdgesTest.run();
        QuestionEdgesTest.run();
        ModelTest.run();
        System.out.println(Due.passed() + " passed, " + Due.failed() + " failed");
        if (Due.failed() != 0 || Due.passed() == 0) {
            System.exit(1);
        }
    }
}
