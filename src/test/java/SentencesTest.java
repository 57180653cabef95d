import java.io.IOException;
import java.nio.file.Path;
import java.util.List;

/** Each sentence of the terms and of the promises has a test of its own that quotes it; none is left out. */
public final class SentencesTest {
    /** What names nothing that a call could show: headings, an outline, and what the sections are called. */
    private static final List<String> NOTHING_TO_TEST = List.of(
            "It tells how long a cell holds out, how much the battery can still give, who should lend, what a loan would "
                    + "cost, and keeps account of all charge. Changes can be undone.",
            "CELLS", "SHUTTLES AND LOANS", "A ROUND", "CHARGING AND DRAWING", "TEXT", "ACTIONS AND UNDO", "EXCEPTIONS",
            "The constants:",
            "Ahead of the calls append, clearText, errorPosition, load the interface says: ---- text.",
            "Ahead of the calls about, cell, loan, order the interface says: ---- what there is.",
            "Ahead of the calls addCell, lend, repay, setLeak, charge, draw, pass, undo the interface says: ---- actions.",
            "Ahead of the calls holds, draws, most, bestLender, costs the interface says: ----",
            "Ahead of the calls runScript, simulate the interface says: ---- scripts, simulations.",
            "Ahead of the calls save, restore the interface says: ---- save slots.");

    public static void main(String[] args) throws IOException {
        Check check = new Check();
        Document document = new Document(Path.of("../shared/DOC.md"));
        List<Sentences> all = List.of(new CellSentences(check, document), new RoundSentences(check, document),
                new DrawingSentences(check, document), new TextSentences(check, document),
                new UndoSentences(check, document), new StateSentences(check, document),
                new ActionSentences(check, document), new WouldBeSentences(check, document),
                new ScriptSentences(check, document));
        for (Sentences sentences : all) {
            sentences.test();
        }
        for (String outline : NOTHING_TO_TEST) {
            check.is(outline + " stands in the terms", document.says("Terms", outline), true);
        }
        check.is("sentences without a test", document.notQuoted().toString(), "{}");
        check.end();
    }
}
