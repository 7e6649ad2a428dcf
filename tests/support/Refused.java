import java.util.function.Supplier;

/** Calls that must throw, and must leave everything as it was. */
final class Refused {
    interface Act {
        long on(NumberPlace x);
    }

    static void index(Check check, String what, Act act) {
        index(check, what, act, NumberPlace::new);
        index(check, what, act, Desks::busy);
    }

    static void argument(Check check, String what, Act act) {
        argument(check, what, act, NumberPlace::new);
        argument(check, what, act, Desks::busy);
    }

    static void index(Check check, String what, Act act, Supplier<NumberPlace> desk) {
        call(check, what, IndexOutOfBoundsException.class, act, desk);
    }

    static void argument(Check check, String what, Act act, Supplier<NumberPlace> desk) {
        call(check, what, IllegalArgumentException.class, act, desk);
    }

    static void state(Check check, String what, Act act, Supplier<NumberPlace> desk) {
        call(check, what, IllegalStateException.class, act, desk);
    }

    private static void call(Check check, String what, Class<?> due, Act act, Supplier<NumberPlace> desk) {
        String got = thrown(desk.get(), act);
        check.same(what + " throws", got, due.getSimpleName());
        Readings.alike(check, what + " is refused and changes nothing", () -> {
            NumberPlace x = desk.get();
            thrown(x, act);
            thrown(x, act);
            return x;
        }, desk);
    }

    private static String thrown(NumberPlace x, Act act) {
        try {
            return "nothing, but answers " + act.on(x);
        } catch (RuntimeException e) {
            return e.getClass().getSimpleName();
        }
    }
}
