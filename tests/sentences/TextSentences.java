/** The head "Puzzle text" of the description. */
final class TextSentences {
    private static final String EIGHT = ";t:0:1;t:0:1;t:0:1;t:0:1;t:0:1;t:0:1;t:0:1;t:0:1";
    private static final String[] RIGHT = {
        "1.2.3.4.5.6" + Desks.DOTS.substring(11),
        Desks.DOTS + ";k3:0:1",
        Desks.DOTS + ";k10:0:1:20:35;a:5:14:23",
        Desks.DOTS + ";a:1:09:0:2",
        Desks.DOTS + ";t:35:34;k18:00:1:2",
        Desks.DOTS + ";t:0:1:2:3:4:5;t:6:7",
        Desks.DOTS + EIGHT};

    private static int parsed(String text) {
        NumberPlace x = new NumberPlace();
        Check.write(x, text);
        return x.parse();
    }

    /** The text must be right, with so many constraints. */
    private static void right(Check check, String text, int constraints) {
        NumberPlace x = new NumberPlace();
        x.give(35, 6);
        Check.write(x, text);
        int givens = 0;
        for (int k = 0; k < 36; k++) {
            givens += text.charAt(k) == '.' ? 0 : 1;
        }
        check.due("parse of " + text, x.parse(), givens);
        check.due("constraints of " + text, x.count(0), constraints);
    }

    /** The text must be wrong at a position, and nothing may change by its parsing. */
    private static void wrong(Check check, String text, int position) {
        NumberPlace x = new NumberPlace();
        x.give(35, 6);
        x.addConstraint(0, 3, 7);
        x.deduce(1);
        Check.write(x, text);
        long before = x.digest();
        check.due("parse of " + text, x.parse(), -10 - position);
        check.due("nothing changes by " + text, x.digest(), before);
        check.due("no state is saved by " + text, x.undo(), 2);
    }

    /** What stands behind 36 dots is wrong at a position, counted from there. */
    private static void behind(Check check, String constraints, int position) {
        wrong(check, Desks.DOTS + constraints, 36 + position);
    }

    @Sentence("The text has at most 150 bytes:")
    static void puzzleText_atMost150Bytes(Check check) {
        NumberPlace x = new NumberPlace();
        for (int k = 1; k <= 150; k++) {
            check.due("byte " + k, x.append(k <= 36 ? '.' : k == 37 ? ';' : 't'), k);
        }
        check.due("150 of them", x.clearText(), 150);
        Refused.state(check, "the byte 151", y -> y.append('.'), Desks::full);
        String most = Desks.DOTS + ";t:10:11:12:13:14:15;t:16:17:18:19:20:21;t:22:23:24:25:26:27"
                + ";t:28:29:30:31:32:33;k10:10:11:12:13;t:10:11:12:13:";
        check.due("149 bytes", (most + "14").length(), 149);
        right(check, most + "14", 6);
        check.due("150 bytes", (most + "1:2").length(), 150);
        right(check, most + "1:2", 6);
        wrong(check, most + "1:x", 149);
        wrong(check, most + "14:", 150);
    }

    @Sentence("first 36 characters, for the cells in order: a digit 1 to 6 (a given) or a dot;")
    static void puzzleText_givens(Check check) {
        for (int cell = 0; cell < 36; cell++) {
            for (int value = 0; value <= 127; value++) {
                String text = Desks.DOTS.substring(0, cell) + (char) value + Desks.DOTS.substring(cell + 1);
                boolean given = value >= '1' && value <= '6';
                check.due("byte " + value + " for cell " + cell, parsed(text),
                        given ? 1 : value == '.' ? 0 : -10 - cell);
            }
        }
        NumberPlace x = new NumberPlace();
        Check.write(x, "123456456123231564564231312645645312");
        check.due("all are given", x.parse(), 36);
        for (int cell = 0; cell < 36; cell++) {
            check.due("given of " + cell, x.cell(cell, 1), "123456456123231564564231312645645312".charAt(cell) - '0');
        }
        right(check, Desks.DOTS, 0);
        wrong(check, Desks.DOTS + ".", 36);
        wrong(check, Desks.DOTS + "1", 36);
        wrong(check, Desks.DOTS.substring(1) + ";k3:0:1", 35);
    }

    @Sentence("then any number of constraints,")
    static void puzzleText_anyNumberOfConstraints(Check check) {
        StringBuilder b = new StringBuilder(Desks.DOTS);
        right(check, b.toString(), 0);
        for (int n = 1; n <= 8; n++) {
            b.append(";t:0:1");
            right(check, b.toString(), n);
        }
    }

    @Sentence("each a semicolon, \"k\", a sum of one or two digits and its cells, or \"a\" and its cells, or \"t\" and its"
            + " cells;")
    static void puzzleText_constraints(Check check) {
        NumberPlace x = new NumberPlace();
        Check.write(x, Desks.DOTS + ";k7:3:20;a:5:4:11;t:30:24:18:12:6:1;k24:35:0:7:8");
        check.due("parse", x.parse(), 0);
        int[][] due = {{0, 7, 3, 20}, {1, 0, 5, 4, 11}, {2, 0, 30, 24, 18, 12, 6, 1}, {0, 24, 35, 0, 7, 8}};
        check.due("four of them", x.count(0), 4);
        for (int i = 0; i < 4; i++) {
            check.due("kind of " + i, x.constraint(i, 0), due[i][0]);
            check.due("sum of " + i, x.constraint(i, 1), due[i][1]);
            check.due("size of " + i, x.constraint(i, 2), due[i].length - 2);
            for (int k = 2; k < due[i].length; k++) {
                check.due("cell of " + i, x.cellOf(i, k - 2), due[i][k]);
            }
        }
        for (int value = 0; value <= 127; value++) {
            if (value != ';') {
                behind(check, (char) value + "t:0:1", 0);
            }
            if (value != 't' && value != 'a') {
                behind(check, ";" + (char) value + ":0:1", value == 'k' ? 2 : 1);
            }
        }
        behind(check, ";K3:0:1", 1);
        behind(check, ";a3:0:1", 2);
        behind(check, ";t3:0:1", 2);
        behind(check, ";k:0:1", 2);
    }

    @Sentence("a sum of one or two digits")
    static void puzzleText_sumOfOneOrTwoDigits(Check check) {
        NumberPlace x = Check.desk("", ";k5:0:1;k05:0:1;k15:0:1;k10:0:1");
        check.due("one digit", x.constraint(0, 1), 5);
        check.due("with a nought", x.constraint(1, 1), 5);
        check.due("two digits", x.constraint(2, 1), 15);
        check.due("two digits", x.constraint(3, 1), 10);
        for (int value = 0; value <= 127; value++) {
            boolean digit = value >= '0' && value <= '9';
            if (!digit) {
                behind(check, ";k" + (char) value + ":0:1", 2);
                behind(check, ";k1" + (value == ':' ? "x" : "" + (char) value) + ":0:1", 3);
            }
            if (value != ':') {
                behind(check, ";k10" + (char) value + "0:1", 4);
            }
        }
    }

    @Sentence("each cell is a colon and one or two digits.")
    static void puzzleText_cellOfOneOrTwoDigits(Check check) {
        NumberPlace x = Check.desk("", ";a:7:08:10;t:9:00");
        check.due("one digit", x.cellOf(0, 0), 7);
        check.due("with a nought", x.cellOf(0, 1), 8);
        check.due("two digits", x.cellOf(0, 2), 10);
        check.due("two noughts", x.cellOf(1, 1), 0);
        for (int value = 0; value <= 127; value++) {
            boolean digit = value >= '0' && value <= '9';
            if (!digit) {
                behind(check, ";a:" + (char) value + ":1", 3);
                behind(check, ";a:5" + (value == ':' ? "::" : "" + (char) value), value == ':' ? 5 : 4);
            }
            if (value != ':') {
                behind(check, ";a" + (char) value + "5:1", 2);
            }
            if (value != ':' && value != ';') {
                behind(check, ";a:5:10" + (char) value, 7);
            }
        }
    }

    @Sentence("There are no spaces.")
    static void puzzleText_noSpaces(Check check) {
        for (String text : RIGHT) {
            for (int at = 0; at <= text.length(); at++) {
                wrong(check, text.substring(0, at) + " " + text.substring(at), at);
            }
        }
    }

    /** Every byte at every place of right texts, compared with a reader that looks at whole numbers. */
    @Sentence("The syntax error position is the index of the first byte that cannot stand where it stands,")
    static void puzzleText_firstByteThatCannotStand(Check check) {
        for (String text : RIGHT) {
            for (int at = 30; at < text.length(); at++) {
                for (int value = 0; value <= 127; value++) {
                    read(check, text.substring(0, at) + (char) value + text.substring(at + 1));
                    read(check, text.substring(0, at) + (char) value + text.substring(at));
                }
            }
        }
        wrong(check, "xyz", 0);
        wrong(check, "1x" + Desks.DOTS + "x", 1);
        behind(check, ";;t:0:1;;", 1);
    }

    private static void read(Check check, String text) {
        int error = new PlainReader(text, new PlainDesk.Snapshot()).error();
        int got = parsed(text);
        check.due("parse of " + text, Math.min(got, -1), error < 0 ? -1 : -10 - error);
    }

    @Sentence("or the length of the text if the text ends too early.")
    static void puzzleText_endsTooEarly(Check check) {
        for (int length = 0; length < 36; length++) {
            wrong(check, Desks.DOTS.substring(0, length), length);
            wrong(check, "123456456123231564564231312645645312".substring(0, length), length);
        }
        String[] beginnings = {";", ";k", ";k5", ";k15", ";k5:", ";k5:0", ";k15:", ";k15:35", ";k15:35:", ";a", ";a:",
            ";a:0", ";a:0:", ";a:12", ";a:12:", ";t", ";t:", ";t:0", ";t:0:", ";t:0:1;", ";t:0:1:", ";t:0:1;k",
            ";t:0:1;k5:2", ";t:0:1;a:3", ";t:0:1:2:3:4:", ";k9:0:1:2:", EIGHT + ";"};
        for (String beginning : beginnings) {
            behind(check, beginning, beginning.length());
        }
        right(check, Desks.DOTS + ";k5:0:1", 1);
        right(check, Desks.DOTS + ";a:0:1", 1);
        right(check, Desks.DOTS + ";t:0:1", 1);
    }

    @Sentence({"For a number that is out of its range, or a cell that is told twice in a constraint, it is the index of"
        + " its first digit, found when a byte that is no digit, or the end of the text, follows it;"})
    static void puzzleText_sumOutOfRange(Check check) {
        for (int sum = 0; sum <= 99; sum++) {
            String two = sum / 10 + "" + sum % 10;
            String[] told = sum < 10 ? new String[] {"" + sum, two} : new String[] {two};
            for (String number : told) {
                if (sum >= 1 && sum <= 24) {
                    right(check, Desks.DOTS + ";k" + number + ":0:1", 1);
                    behind(check, ";k" + number, 2 + number.length());
                    behind(check, ";k" + number + "x", 2 + number.length());
                } else {
                    behind(check, ";k" + number + ":0:1", 2);
                    behind(check, ";k" + number, 2);
                    behind(check, ";k" + number + "x", 2);
                    behind(check, ";k" + number + ";", 2);
                    behind(check, ";k" + number + " ", 2);
                }
            }
        }
    }

    @Sentence("For a number that is out of its range")
    static void puzzleText_cellOutOfRange(Check check) {
        for (int cell = 0; cell <= 99; cell++) {
            String two = cell / 10 + "" + cell % 10;
            String[] told = cell < 10 ? new String[] {"" + cell, two} : new String[] {two};
            int other = cell == 20 ? 21 : 20;
            for (String number : told) {
                if (cell <= 35) {
                    right(check, Desks.DOTS + ";a:" + number + ":" + other, 1);
                    right(check, Desks.DOTS + ";t:" + other + ":" + number, 1);
                    right(check, Desks.DOTS + ";t:" + other + ":" + number + ";k5:0:1", 2);
                } else {
                    behind(check, ";a:" + number + ":20", 3);
                    behind(check, ";t:20:" + number, 6);
                    behind(check, ";t:20:" + number + ";k5:0:1", 6);
                    behind(check, ";t:20:" + number + "x", 6);
                    behind(check, ";k10:20:21:22:" + number + ":23", 14);
                }
            }
        }
    }

    @Sentence("or a cell that is told twice in a constraint")
    static void puzzleText_cellToldTwice(Check check) {
        behind(check, ";a:0:0", 5);
        behind(check, ";a:0:0:1", 5);
        behind(check, ";a:0:0;", 5);
        behind(check, ";a:0:0x", 5);
        behind(check, ";a:7:07", 5);
        behind(check, ";a:07:7", 6);
        behind(check, ";k9:10:1:10", 9);
        behind(check, ";t:5:10:15:20:25:5", 17);
        behind(check, ";t:5:10:15:20:25:25", 17);
        behind(check, ";a:1:2:3:1", 9);
        behind(check, ";t:0:1;t:1:2:1", 13);
        right(check, Desks.DOTS + ";t:0:1;t:1:0;a:0:1;k3:0:1", 4);
        right(check, Desks.DOTS + ";a:1:11:10", 1);
    }

    @Sentence("found when a byte that is no digit, or the end of the text, follows it; a third digit,")
    static void puzzleText_thirdDigit(Check check) {
        behind(check, ";k100:0:1", 4);
        behind(check, ";k001:0:1", 4);
        behind(check, ";k250:0:1", 4);
        behind(check, ";k999", 4);
        behind(check, ";k0000", 4);
        behind(check, ";a:100:1", 5);
        behind(check, ";a:000:1", 5);
        behind(check, ";a:360:1", 5);
        behind(check, ";a:0:000", 7);
        behind(check, ";a:0:010", 7);
        behind(check, ";a:0:999x", 7);
    }

    @Sentence("the colon of a cell too many,")
    static void puzzleText_colonOfACellTooMany(Check check) {
        right(check, Desks.DOTS + ";k10:0:1:2:3", 1);
        right(check, Desks.DOTS + ";a:0:1:2:3", 1);
        right(check, Desks.DOTS + ";t:0:1:2:3:4:5", 1);
        behind(check, ";k10:0:1:2:3:4", 12);
        behind(check, ";k10:0:1:2:3:", 12);
        behind(check, ";k10:0:1:2:3:3", 12);
        behind(check, ";a:0:1:2:3:4", 10);
        behind(check, ";a:0:1:2:3:99", 10);
        behind(check, ";t:0:1:2:3:4:5:6", 14);
        behind(check, ";t:0:1:2:3:4:5:", 14);
        behind(check, ";a:0:1:2:2:4", 9);
    }

    @Sentence("a semicolon behind too few cells,")
    static void puzzleText_semicolonBehindTooFewCells(Check check) {
        behind(check, ";k5;", 3);
        behind(check, ";k5;t:0:1", 3);
        behind(check, ";k5:0;t:0:1", 5);
        behind(check, ";k15:10;", 7);
        behind(check, ";a;", 2);
        behind(check, ";a:0;t:0:1", 4);
        behind(check, ";t;", 2);
        behind(check, ";t:35;", 5);
        right(check, Desks.DOTS + ";k5:0:2;a:0:1;t:0:1", 3);
    }

    @Sentence("and the letter of a ninth constraint cannot stand.")
    static void puzzleText_letterOfANinth(Check check) {
        right(check, Desks.DOTS + EIGHT, 8);
        behind(check, EIGHT + ";", 49);
        behind(check, EIGHT + ";t", 49);
        behind(check, EIGHT + ";t:0:1", 49);
        behind(check, EIGHT + ";k5:0:1", 49);
        behind(check, EIGHT + ";a:0:1", 49);
        behind(check, EIGHT + ";x", 49);
        behind(check, EIGHT + "x", 48);
        NumberPlace x = new NumberPlace();
        for (int k = 0; k < 8; k++) {
            x.addConstraint(2, k, 0);
        }
        Check.write(x, Desks.DOTS + ";t:0:1");
        check.due("constraints of before do not count", x.parse(), 0);
        check.due("one constraint", x.count(0), 1);
    }
}
