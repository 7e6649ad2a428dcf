/** Promises 26 to 28: the text, and every way in which it can be right or wrong. */
public final class TextTest {
    private static final Check check = new Check();
    private static final String DOTS = "....................................";

    public static void main(String[] args) {
        Watch.begin("TextTest");
        append();
        givens();
        constraints();
        errors();
        whatParseMakes();
        check.end();
    }

    private static void append() {
        NumberPlace x = new NumberPlace();
        check.argument(x, "26: value -1", () -> x.append(-1));
        check.argument(x, "26: value 128", () -> x.append(128));
        check.due("26: value 0", x.append(0), 1);
        check.due("26: value 127", x.append(127), 2);
        check.due("27: clearText", x.clearText(), 2);
        check.due("27: again", x.clearText(), 0);
        for (int k = 1; k <= 150; k++) {
            check.due("26: append", x.append('.'), k);
        }
        check.state(x, "26: 151", () -> x.append('.'));
        check.argument(x, "26: 151 of -1", () -> x.append(-1));
        check.argument(x, "26: 151 of 128", () -> x.append(128));
        check.due("28: too long", x.parse(), -10 - 36);
        check.due("27: full text", x.clearText(), 150);
        check.due("26: after it", x.append('.'), 1);
        check.state(x, "26: nothing is undoable", () -> x.undo());
    }

    private static void parses(String text, int due) {
        NumberPlace x = new NumberPlace();
        x.give(35, 6);
        x.deduce(1);
        Check.write(x, text);
        long before = x.digest();
        check.due("28: " + text, x.parse(), due);
        if (due < 0) {
            check.due("28: nothing changes: " + text, x.digest(), before);
            check.due("28: not undoable: " + text, x.undo(), 1);
        } else {
            check.due("28: undoable: " + text, x.undo(), 2);
            check.due("28: undone: " + text, x.digest(), before);
        }
        check.due("28: the text stays: " + text, x.clearText(), text.length());
    }

    private static void error(String text, int position) {
        parses(text, -10 - position);
    }

    /** The error in what stands behind the dots, told from there. */
    private static void behind(String constraints, int position) {
        error(DOTS + constraints, 36 + position);
    }

    private static void givens() {
        parses(DOTS, 0);
        parses("123456" + DOTS.substring(6), 6);
        parses("111111" + DOTS.substring(6), 6);
        parses("123456456123231564564231312645645312", 36);
        error("", 0);
        error("1", 1);
        error("7", 0);
        error("0", 0);
        error(".x", 1);
        error(" ", 0);
        error(";", 0);
        error(DOTS.substring(1), 35);
        error(DOTS.substring(1) + ";", 35);
        error(DOTS.substring(1) + "7", 35);
        error(DOTS + ".", 36);
        error(DOTS + "1", 36);
        error(DOTS + ":", 36);
    }

    private static void constraints() {
        parses(DOTS + ";k3:0:1", 0);
        parses(DOTS + ";k24:0:1", 0);
        parses(DOTS + ";k03:00:01", 0);
        parses(DOTS + ";k1:0:1:2:35", 0);
        parses(DOTS + ";a:0:1", 0);
        parses(DOTS + ";a:0:1:2:3", 0);
        parses(DOTS + ";t:35:34", 0);
        parses(DOTS + ";t:0:1:2:3:4:5", 0);
        parses(DOTS + ";t:0:1;t:0:1;t:0:1;t:0:1;t:0:1;t:0:1;t:0:1;t:0:1", 0);
    }

    private static void errors() {
        behind(";", 1);
        behind(";x", 1);
        behind(";;", 1);
        behind(";K3:0:1", 1);
        behind(";k", 2);
        behind(";k:0:1", 2);
        behind(";k3", 3);
        behind(";k3;", 3);
        behind(";k3:", 4);
        behind(";k3:0", 5);
        behind(";k3:0;", 5);
        behind(";k3:0:", 6);
        behind(";k3::", 4);
        behind(";k3:0:1:", 8);
        behind(";k3:0:1x", 7);
        behind(";k3:0:1:2:3:", 11);
        behind(";k3:0:1:2:3:4", 11);
        behind(";k0:0:1", 2);
        behind(";k00:0:1", 2);
        behind(";k25:0:1", 2);
        behind(";k25", 2);
        behind(";k25x", 2);
        behind(";k99;", 2);
        behind(";k250", 4);
        behind(";k100:0:1", 4);
        behind(";k003:0:1", 4);
        behind(";a3:0:1", 2);
        behind(";a", 2);
        behind(";a;", 2);
        behind(";a:36:1", 3);
        behind(";a:36", 3);
        behind(";a:99x", 3);
        behind(";a:0:36:1", 5);
        behind(";a:361", 5);
        behind(";a:001", 5);
        behind(";a:0:0", 5);
        behind(";a:0:00", 5);
        behind(";a:0:0x", 5);
        behind(";a:0:000", 7);
        behind(";a:10:1:10", 8);
        behind(";a:0:1:2:3:4", 10);
        behind(";a:0:1:2:3:3", 10);
        behind(";t", 2);
        behind(";t3", 2);
        behind(";t:0", 4);
        behind(";t:0;", 4);
        behind(";t:0:1:2:3:4:5:6", 14);
        behind(";t:0:1:2:3:4:4", 13);
        behind(";t:0:1;", 7);
        behind(";t:0:1;k", 8);
        behind(";t:0:1t", 6);
        behind(";t:0:1.", 6);
        behind(";t:0 :1", 4);
        behind(";t:-1:1", 3);
        String eight = ";t:0:1;t:0:1;t:0:1;t:0:1;t:0:1;t:0:1;t:0:1;t:0:1";
        behind(eight + ";", 49);
        behind(eight + ";t:0:1", 49);
        behind(eight + ";x", 49);
        behind(eight + ";k99", 49);
        behind(eight + "t", 48);
        behind(eight + ":2:3:4:5:6", 56);
    }

    private static void whatParseMakes() {
        NumberPlace x = new NumberPlace();
        x.addConstraint(0, 0, 5);
        x.extend(0, 35);
        x.give(0, 6);
        x.deduce(1);
        Check.write(x, "12" + DOTS.substring(3) + "6;k14:1:2:9:35;a:5:4;t:30:24:18:12:6:1");
        check.due("28: parse", x.parse(), 3);
        check.due("28: given", x.cell(35, 1), 6);
        check.due("28: candidates", x.candidates(0) + x.candidates(1) + x.candidates(2), 2 + 4 + 126);
        check.due("28: placed", x.count(2), 0);
        check.due("28: candidates of all", x.count(3), 3 + 33 * 6);
        check.due("28: logged", x.logged(), 0);
        check.due("28: constraints", x.count(0), 3);
        check.due("28: sum", x.constraint(0, 1), 14);
        check.due("28: cage", x.cellOf(0, 3), 35);
        check.due("28: arrow", x.constraint(1, 0), 1);
        check.due("28: arrow's sum", x.constraint(1, 1), 0);
        check.due("28: thermometer", x.constraint(2, 2), 6);
        check.due("28: its last cell", x.cellOf(2, 5), 1);
        check.due("13: peers", x.cell(35, 2), 15);
        check.due("13: the old cage is gone", x.cell(0, 2), 12);
        x.strike(20, 1);
        x.deduce(500);
        check.due("28: at its beginning again", x.parse(), 3);
        check.due("28: candidates again", x.count(3), 3 + 33 * 6);
        check.due("28: constraints again", x.count(0), 3);
        x.clearText();
        Check.write(x, "..3;t:0:1");
        check.due("28: an error in between", x.parse(), -10 - 3);
        x.clearText();
        Check.write(x, "." + DOTS.substring(1) + ";t:7:8");
        check.due("28: another puzzle", x.parse(), 0);
        check.due("28: nothing of the old givens", x.count(3), 216);
        check.due("28: nothing of the old constraints", x.count(0), 1);
        check.due("13: nothing of the old peers", x.cell(35, 2), 12);
        NumberPlace y = Check.desk("11", "");
        check.due("28: two equal givens", y.count(1), 2);
        check.due("28: no peers are struck", y.candidates(1), 2);
        NumberPlace z = Check.desk("", ";k05:06:7");
        check.due("28: a nought before a sum", z.constraint(0, 1), 5);
        check.due("28: a nought before a cell", z.cellOf(0, 0), 6);
    }
}
