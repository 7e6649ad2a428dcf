/** One call by number on the program and on the plain desk, with a throw as an answer of its own. */
final class Script {
    static final long INDEX = -900001;
    static final long ARGUMENT = -900002;
    static final long STATE = -900003;
    static final String[] NAMES = {
        "begin", "give", "strike", "addConstraint", "extend", "restart", "make", "constraint", "cellOf",
        "count", "candidates", "cell", "deduce", "hint", "hintPlace", "logged", "step", "needs",
        "solutions", "guesses", "solved", "superfluous", "possible", "needed", "append", "clearText",
        "parse", "undo", "digest"};

    static long program(NumberPlace x, String name, int a, int b, int c) {
        try {
            switch (name) {
                case "begin": return x.begin();
                case "give": return x.give(a, b);
                case "strike": return x.strike(a, b) ? 1 : 0;
                case "addConstraint": return x.addConstraint(a, b, c);
                case "extend": return x.extend(a, b);
                case "restart": return x.restart();
                case "make": return x.make(a, b);
                case "constraint": return x.constraint(a, b);
                case "cellOf": return x.cellOf(a, b);
                case "count": return x.count(a);
                case "candidates": return x.candidates(a);
                case "cell": return x.cell(a, b);
                case "deduce": return x.deduce(a);
                case "hint": return x.hint();
                case "hintPlace": return x.hintPlace();
                case "logged": return x.logged();
                case "step": return x.step(a, b);
                case "needs": return x.needs(a);
                case "solutions": return x.solutions(a);
                case "guesses": return x.guesses();
                case "solved": return x.solved(a);
                case "superfluous": return x.superfluous();
                case "possible": return x.possible(a, b) ? 1 : 0;
                case "needed": return x.needed();
                case "append": return x.append(a);
                case "clearText": return x.clearText();
                case "parse": return x.parse();
                case "undo": return x.undo();
                default: return x.digest();
            }
        } catch (IndexOutOfBoundsException e) {
            return e.getClass() == IndexOutOfBoundsException.class ? INDEX : -1000000;
        } catch (IllegalArgumentException e) {
            return ARGUMENT;
        } catch (IllegalStateException e) {
            return STATE;
        }
    }

    static long plain(PlainDesk x, String name, int a, int b, int c) {
        try {
            switch (name) {
                case "begin": return x.begin();
                case "give": return x.give(a, b);
                case "strike": return x.strike(a, b);
                case "addConstraint": return x.addConstraint(a, b, c);
                case "extend": return x.extend(a, b);
                case "restart": return x.restart();
                case "make": return x.make(a, b);
                case "constraint": return x.constraint(a, b);
                case "cellOf": return x.cellOf(a, b);
                case "count": return x.count(a);
                case "candidates": return x.candidates(a);
                case "cell": return x.cell(a, b);
                case "deduce": return x.deduce(a);
                case "hint": return x.hint();
                case "hintPlace": return x.hintPlace();
                case "logged": return x.logged();
                case "step": return x.step(a, b);
                case "needs": return x.needs(a);
                case "solutions": return x.solutions(a);
                case "guesses": return x.guesses();
                case "solved": return x.solved(a);
                case "superfluous": return x.superfluous();
                case "possible": return x.possible(a, b);
                case "needed": return x.needed();
                case "append": return x.append(a);
                case "clearText": return x.clearText();
                case "parse": return x.parse();
                case "undo": return x.undo();
                default: return x.digest();
            }
        } catch (IndexOutOfBoundsException e) {
            return INDEX;
        } catch (IllegalArgumentException e) {
            return ARGUMENT;
        } catch (IllegalStateException e) {
            return STATE;
        }
    }
}
