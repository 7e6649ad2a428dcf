/** The head "Constraints" of the description. */
final class ConstraintSentences {
    private static final int[] FAR = {0, 9, 13, 22, 26, 35, 30};

    /** A constraint of the first cells of FAR; no two of the first six of them share a unit. */
    private static NumberPlace of(int kind, int cells, int sum) {
        NumberPlace x = new NumberPlace();
        x.addConstraint(kind, FAR[0], sum);
        for (int k = 1; k < cells; k++) {
            x.extend(0, FAR[k]);
        }
        return x;
    }

    @Sentence("There are at most 8,")
    static void constraints_atMostEight(Check check) {
        NumberPlace x = new NumberPlace();
        for (int k = 0; k < 8; k++) {
            check.due("number " + k + " is in", x.addConstraint(k % 3, k, k % 3 == 0 ? 24 : 0), k);
        }
        check.due("eight", x.count(0), 8);
        Refused.state(check, "a ninth cage", y -> y.addConstraint(0, 20, 5), Desks::full);
        Refused.state(check, "a ninth thermometer", y -> y.addConstraint(2, 20, 0), Desks::full);
        String eight = ";t:0:1;t:0:1;t:0:1;t:0:1;t:0:1;t:0:1;t:0:1;t:0:1";
        check.due("eight in a text", Check.desk("", eight).count(0), 8);
        NumberPlace z = new NumberPlace();
        Check.write(z, Desks.DOTS + eight + ";t:0:1");
        check.due("nine in a text", z.parse(), -10 - 36 - 49);
        z.begin();
        check.due("none behind begin", z.addConstraint(0, 0, 5), 0);
    }

    @Sentence("numbered from 0 in the order in which they were added.")
    static void constraints_numberedFromNought(Check check) {
        NumberPlace x = new NumberPlace();
        int[] cells = {35, 7, 20};
        for (int k = 0; k < 3; k++) {
            check.due("the next number", x.addConstraint(2 - k, cells[k], k == 2 ? 9 : 0), k);
        }
        for (int k = 0; k < 3; k++) {
            check.due("kind of " + k, x.constraint(k, 0), 2 - k);
            check.due("cell of " + k, x.cellOf(k, 0), cells[k]);
        }
        x.undo();
        check.due("a number is free again", x.addConstraint(1, 3, 0), 2);
        check.due("and has the new kind", x.constraint(2, 0), 1);
        check.due("no sum any more", x.constraint(2, 1), 0);
        check.due("one cell", x.constraint(2, 2), 1);
    }

    @Sentence("Each has a kind and a sequence of different cells:")
    static void constraints_differentCells(Check check) {
        NumberPlace x = of(2, 5, 0);
        check.due("kind", x.constraint(0, 0), 2);
        for (int k = 0; k < 5; k++) {
            check.due("in their order " + k, x.cellOf(0, k), FAR[k]);
        }
        for (int kind = 0; kind <= 2; kind++) {
            for (int k = 0; k < 3; k++) {
                int again = FAR[k];
                int sort = kind;
                Refused.state(check, "kind " + kind + " has " + again, y -> y.extend(0, again),
                        () -> of(sort, 3, sort == 0 ? 9 : 0));
            }
        }
        x.addConstraint(1, FAR[0], 0);
        check.due("another one can have the cell", x.extend(1, FAR[1]), 2);
    }

    @Sentence("0 cage: 2 to 4 cells")
    static void constraints_cageOfTwoToFourCells(Check check) {
        check.due("one cell has no effect", of(0, 1, 24).hint(), 0);
        check.due("nor for solutions", of(0, 1, 24).solutions(20), 20);
        for (int cells = 2; cells <= 4; cells++) {
            check.due(cells + " cells", of(0, cells, 24).constraint(0, 2), cells);
            check.due(cells + " cells have an effect", of(0, cells, 24).hint(), 4);
            check.due(cells + " cells", of(0, cells, 24).solutions(20), 0);
        }
        Refused.state(check, "a fifth cell", y -> y.extend(0, FAR[4]), () -> of(0, 4, 14));
    }

    @Sentence("and a sum, 1 to 24:")
    static void constraints_cageSumOneTo24(Check check) {
        NumberPlace x = new NumberPlace();
        for (int sum = 1; sum <= 24; sum++) {
            int index = x.addConstraint(0, 35, sum);
            check.due("sum " + sum, x.constraint(index, 1), sum);
            x.undo();
        }
        for (int sum : new int[] {0, 25, -1, 26, Integer.MIN_VALUE, Integer.MAX_VALUE}) {
            Refused.argument(check, "a cage of " + sum, y -> y.addConstraint(0, 35, sum));
        }
        check.due("1 in a text", Check.desk("", ";k1:0:1").constraint(0, 1), 1);
        check.due("24 in a text", Check.desk("", ";k24:0:1").constraint(0, 1), 24);
    }

    @Sentence("the digits in it are different,")
    static void constraints_cageDigitsDiffer(Check check) {
        NumberPlace two = of(0, 2, 8);
        check.due("4 and 4 are no 8", two.possible(0, 4), false);
        check.due("2 and 6 are", two.possible(0, 2), true);
        NumberPlace three = of(0, 3, 6);
        three.give(0, 2);
        three.give(9, 2);
        check.due("2, 2 and 2", three.solutions(20), 0);
        NumberPlace four = of(0, 4, 13);
        four.give(9, 3);
        four.give(13, 4);
        four.give(22, 5);
        check.due("1, 3, 4, 5", four.possible(0, 1), true);
        four.undo();
        four.give(22, 3);
        check.due("3 twice", four.possible(0, 3), false);
    }

    @Sentence("and add up to the sum.")
    static void constraints_cageAddsUp(Check check) {
        for (int one = 1; one <= 6; one++) {
            for (int other = 1; other <= 6; other++) {
                for (int sum = 1; sum <= 24; sum++) {
                    NumberPlace x = of(0, 2, sum);
                    x.give(0, one);
                    x.give(9, other);
                    check.due(one + " and " + other + " for " + sum, x.solutions(1) > 0,
                            one != other && one + other == sum);
                }
            }
        }
        NumberPlace x = of(0, 4, 18);
        x.deduce(500);
        check.due("the greatest of four", x.candidates(0), 8 + 16 + 32 + 64);
        check.due("one more", of(0, 4, 19).solutions(1), 0);
        check.due("the smallest of four", of(0, 4, 10).solutions(1), 1);
        check.due("one less", of(0, 4, 9).solutions(1), 0);
    }

    @Sentence("1 arrow: 2 to 4 cells:")
    static void constraints_arrowOfTwoToFourCells(Check check) {
        check.due("one cell has no effect", of(1, 1, 0).hint(), 0);
        NumberPlace x = of(1, 1, 0);
        x.strike(0, 4);
        check.due("on any candidate", x.hint(), 0);
        for (int cells = 2; cells <= 4; cells++) {
            NumberPlace y = of(1, cells, 0);
            check.due(cells + " cells", y.constraint(0, 2), cells);
            y.strike(FAR[cells - 1], 1);
            check.due(cells + " cells have an effect", y.hint(), 5);
        }
        Refused.state(check, "a fifth cell", y -> y.extend(0, FAR[4]), () -> of(1, 4, 0));
        Refused.argument(check, "an arrow has no sum", y -> y.addConstraint(1, 0, 5));
    }

    @Sentence("the digit of the first one is the sum of the others.")
    static void constraints_arrowAddsUp(Check check) {
        for (int total = 1; total <= 6; total++) {
            for (int one = 1; one <= 6; one++) {
                NumberPlace two = of(1, 2, 0);
                two.give(0, total);
                two.give(9, one);
                check.due(total + " is " + one, two.solutions(1) > 0, total == one);
                for (int other = 1; other <= 6; other++) {
                    NumberPlace x = of(1, 3, 0);
                    x.give(0, total);
                    x.give(9, one);
                    x.give(13, other);
                    check.due(total + " is " + one + " and " + other, x.solutions(1) > 0, total == one + other);
                }
            }
        }
        NumberPlace four = of(1, 4, 0);
        check.due("three ones are 3", four.possible(0, 3), true);
        check.due("three digits are no 2", four.possible(0, 2), false);
        check.due("one of three is no 5", four.possible(22, 5), false);
    }

    @Sentence("2 thermometer: 2 to 6 cells:")
    static void constraints_thermometerOfTwoToSixCells(Check check) {
        check.due("one cell has no effect", of(2, 1, 0).hint(), 0);
        for (int cells = 2; cells <= 6; cells++) {
            check.due(cells + " cells", of(2, cells, 0).constraint(0, 2), cells);
            NumberPlace x = of(2, cells, 0);
            check.due(cells + " cells have an effect", x.hint(), 3);
            x.deduce(1);
            check.due("candidates of " + cells, x.step(0, 2), cells * (cells - 1));
        }
        Refused.state(check, "a seventh cell", y -> y.extend(0, FAR[6]), () -> of(2, 6, 0));
        Refused.argument(check, "a thermometer has no sum", y -> y.addConstraint(2, 0, 5));
    }

    @Sentence("the digits ascend from each one to the next one.")
    static void constraints_thermometerAscends(Check check) {
        for (int one = 1; one <= 6; one++) {
            for (int other = 1; other <= 6; other++) {
                NumberPlace x = of(2, 2, 0);
                x.give(0, one);
                x.give(9, other);
                check.due(one + " before " + other, x.solutions(1) > 0, one < other);
                NumberPlace y = of(2, 3, 0);
                y.give(9, one);
                y.give(13, other);
                check.due(one + " before " + other + " at the end", y.solutions(1) > 0, one > 1 && one < other);
            }
        }
    }
}
