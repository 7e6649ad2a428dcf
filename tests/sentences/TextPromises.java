/** Promises 26 to 28: the puzzle text. */
final class TextPromises {
    @Sentence({"Appends a byte to the puzzle text.", "Returns the new length of the text."})
    static void promise26_append(Check check) {
        NumberPlace x = new NumberPlace();
        String text = "..3" + Desks.DOTS.substring(3) + ";k5:0:1";
        for (int k = 0; k < text.length(); k++) {
            check.due("length", x.append(text.charAt(k)), k + 1);
        }
        check.due("read", x.parse(), 1);
        check.due("the byte of cell 2", x.cell(2, 1), 3);
        check.due("the last byte", x.cellOf(0, 1), 1);
        check.due("one more", x.append('2'), text.length() + 1);
        x.parse();
        check.due("belongs to the number before", x.cellOf(0, 1), 12);
        NumberPlace y = new NumberPlace();
        y.append('1');
        check.due("not undoable", Script.program(y, "undo", 0, 0, 0), Script.STATE);
    }

    @Sentence({"- `value`: the byte, 0 to 127", "Throws `IllegalArgumentException` if value is out of range"})
    static void promise26_noByte(Check check) {
        NumberPlace x = new NumberPlace();
        for (int value = 0; value <= 127; value++) {
            check.due("byte " + value, x.append(value), value + 1);
        }
        for (int value : new int[] {-1, 128, 255, -128, 256 + '.', Integer.MIN_VALUE, Integer.MAX_VALUE}) {
            Refused.argument(check, "byte " + value, y -> y.append(value));
        }
    }

    @Sentence("Throws `IllegalStateException` if the text has 150 bytes")
    static void promise26_full(Check check) {
        NumberPlace x = new NumberPlace();
        for (int k = 1; k <= 150; k++) {
            check.due("byte " + k, x.append('.'), k);
        }
        check.due("byte 151", Script.program(x, "append", '.', 0, 0), Script.STATE);
        check.due("byte 152", Script.program(x, "append", '.', 0, 0), Script.STATE);
        check.due("150 are there", x.clearText(), 150);
        check.due("room again", x.append('.'), 1);
        Refused.state(check, "full", y -> y.append(0), Desks::full);
        Refused.state(check, "full", y -> y.append(127), Desks::full);
    }

    @Sentence({"Empties the puzzle text.", "Returns the length that it had."})
    static void promise27_clearText(Check check) {
        NumberPlace x = new NumberPlace();
        check.due("empty", x.clearText(), 0);
        for (int length = 1; length <= 3; length++) {
            for (int k = 0; k < length; k++) {
                x.append('.');
            }
            check.due("length", x.clearText(), length);
            check.due("nothing is left", x.clearText(), 0);
            check.due("nothing to read", x.parse(), -10);
        }
        check.due("full", Desks.full().clearText(), 150);
        NumberPlace y = Desks.busy();
        long before = y.digest();
        int length = y.clearText();
        check.due("changes only the length", y.digest() != before, true);
        check.due("no state saved", y.undo(), 3);
        Check.write(y, Desks.DOTS);
        check.due("the length that it had", length > 36, true);
        check.due("bytes of before are gone", y.parse(), 0);
    }

    @Sentence("Makes the puzzle the one that the text describes, at its beginning.")
    static void promise28_parse(Check check) {
        NumberPlace x = Desks.full();
        x.deduce(5);
        x.give(5, 4);
        x.clearText();
        Check.write(x, "12....3....................6........;k8:20:27:34;t:30:31");
        check.due("givens", x.parse(), 4);
        for (int cell = 0; cell < 36; cell++) {
            int given = cell == 0 ? 1 : cell == 1 ? 2 : cell == 6 ? 3 : cell == 27 ? 6 : 0;
            check.due("given of " + cell, x.cell(cell, 1), given);
            check.due("candidates of " + cell, x.candidates(cell), given == 0 ? 126 : 1 << given);
            check.due("peers of " + cell, x.cell(cell, 2), cell == 20 ? 14 : cell == 27 || cell == 34 ? 13 : 12);
        }
        check.due("nothing placed", x.count(2), 0);
        check.due("log", x.logged(), 0);
        check.due("constraints", x.count(0), 2);
        check.due("cage", x.constraint(0, 1) * 10 + x.constraint(0, 2), 83);
        check.due("thermometer", x.constraint(1, 0) * 10 + x.constraint(1, 2), 22);
    }

    @Sentence("at its beginning.")
    static void promise28_atItsBeginning(Check check) {
        NumberPlace x = Check.desk("12", ";t:30:31");
        long before = x.digest();
        x.deduce(500);
        x.strike(20, 1);
        x.give(35, 4);
        x.addConstraint(0, 0, 5);
        check.due("two givens", x.parse(), 2);
        check.due("candidates", x.count(3), 34 * 6 + 2);
        check.due("none is placed", x.count(2), 0);
        check.due("one constraint", x.count(0), 1);
        check.due("four states", x.undo(), 3);
        NumberPlace y = Check.desk("12", ";t:30:31");
        y.deduce(500);
        y.parse();
        y.undo();
        y.undo();
        check.due("as parsed", y.digest(), before);
    }

    @Sentence("The text stays as it is.")
    static void promise28_textStays(Check check) {
        NumberPlace x = Check.desk("12", ";t:30:31");
        check.due("again", x.parse(), 2);
        check.due("its length", x.clearText(), 36 + 8);
        Check.write(x, "1x");
        check.due("wrong", x.parse(), -10 - 1);
        check.due("again", x.parse(), -10 - 1);
        check.due("its length", x.clearText(), 2);
    }

    @Sentence({"Undoable, if there is no syntax error.", "Returns the number of givens;",
        "-10 minus the syntax error position if there is a syntax error (then nothing changes)."})
    static void promise28_syntaxError(Check check) {
        check.due("empty text", new NumberPlace().parse(), -10);
        for (String text : new String[] {"", "x", "123456", Desks.DOTS + ";", Desks.DOTS + ";t:5:6:7:x"}) {
            int error = new PlainReader(text, new PlainDesk.Snapshot()).error();
            Readings.alike(check, "a parse that fails at " + error, () -> {
                NumberPlace x = Desks.busy();
                x.clearText();
                Check.write(x, text);
                check.due("position", x.parse(), -10 - error);
                return x;
            }, () -> {
                NumberPlace x = Desks.busy();
                x.clearText();
                Check.write(x, text);
                return x;
            });
        }
        NumberPlace x = new NumberPlace();
        Check.write(x, Desks.DOTS);
        check.due("no givens", x.parse(), 0);
        check.due("undo", x.undo(), 0);
        x.clearText();
        Check.write(x, "123456456123231564564231312645645312");
        check.due("all givens", x.parse(), 36);
        check.due("undo", x.undo(), 0);
        check.due("nothing is given", x.count(1), 0);
    }
}
