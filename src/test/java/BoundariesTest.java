/** Each sentence of the document that names a boundary case, by a test of its own. */
public final class BoundariesTest {
    private static final int PROMISES = 42;

    public static void main(String[] args) {
        Sentences[] all = {new TermsBoundaries(), new HourBoundaries(), new OfficeBoundaries(),
            new PieceBoundaries(), new RuleBoundaries(), new StateBoundaries(), new OneBoundaries(),
            new PairBoundaries(), new SiteBoundaries(), new KeptBoundaries()};
        boolean[] promises = new boolean[PROMISES + 1];
        int checks = 0;
        int wrong = 0;
        for (Sentences some : all) {
            some.run(promises);
            checks += some.checks();
            wrong += some.wrong();
        }
        for (int i = 1; i <= PROMISES; i++) {
            if (!promises[i]) {
                wrong++;
                System.out.println("no sentence of promise " + i + " is tested");
            }
        }
        System.out.println(wrong == 0 ? checks + " answers are as due" : wrong + " answers are not as due");
        if (wrong != 0) {
            System.exit(1);
        }
    }
}
