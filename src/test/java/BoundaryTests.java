import java.nio.file.Path;

/**
 * Each sentence of the document that names a boundary case, with a test of its own: the tests quote the sentences that
 * they hold the class to, and a sentence that none of them quotes is wrong as well.
 */
public final class BoundaryTests {
    private BoundaryTests() {
    }

    public static void main(String[] args) throws Exception {
        Doc.read(Path.of(args.length > 0 ? args[0] : "../shared/DOC.md"));
        RowBounds.run();
        TextBounds.run();
        NightBounds.run();
        FightBounds.run();
        SolvedBounds.run();
        ToldBounds.run();
        LotBounds.run();
        TableBounds.run();
        TellBounds.run();
        TermsBounds.run();
        for (String part : Doc.notQuoted()) {
            System.out.println("no test quotes " + part);
        }
        int wrong = Check.wrong() + Doc.notQuoted().size();
        System.out.println("BoundaryTests: " + Check.checks() + " checks, " + wrong + " wrong");
        if (wrong > 0) {
            System.exit(1);
        }
    }
}
