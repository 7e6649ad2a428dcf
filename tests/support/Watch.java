/** Ends a test that does not come to its end, since a call does not: it must fail, not hang. */
final class Watch {
    /** Far above what a test needs, on slow machines too. */
    private static final long MOST_MILLIS = 900000;

    static void begin(String test) {
        Thread watch = new Thread(() -> {
            try {
                Thread.sleep(MOST_MILLIS);
            } catch (InterruptedException e) {
                return;
            }
            System.out.println(test + " does not come to its end");
            Runtime.getRuntime().halt(1);
        });
        watch.setDaemon(true);
        watch.start();
    }
}
