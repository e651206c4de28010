/** Counts and prints the checks of one test class. */
final class Checks {
    interface Call {
        void run();
    }

    private int passed = 0;
    private int failed = 0;

    void same(String what, long got, long due) {
        note(got == due, what + ": got " + got + ", due is " + due);
    }

    void same(String what, double got, double due) {
        note(Double.compare(got, due) == 0, what + ": got " + got + ", due is " + due);
    }

    void same(String what, String got, String due) {
        note(got.equals(due), what + ": got " + got + ", due is " + due);
    }

    /** The call throws just this exception, and the digest and the saved states stay as they were. */
    void refused(String what, ShutterBench bench, Class<? extends RuntimeException> due, Call call) {
        long before = bench.digest();
        same(what, thrownBy(call), due.getSimpleName());
        same(what + " changes nothing", bench.digest(), before);
    }

    void outside(String what, ShutterBench bench, Call call) {
        refused(what, bench, IndexOutOfBoundsException.class, call);
    }

    void illegal(String what, ShutterBench bench, Call call) {
        refused(what, bench, IllegalArgumentException.class, call);
    }

    void badState(String what, ShutterBench bench, Call call) {
        refused(what, bench, IllegalStateException.class, call);
    }

    static String thrownBy(Call call) {
        try {
            call.run();
            return "nothing";
        } catch (RuntimeException e) {
            return e.getClass().getSimpleName();
        }
    }

    void end(String name) {
        System.out.println(name + ": " + passed + " checks hold, " + failed + " do not");
        if (failed > 0 || passed == 0) {
            System.exit(1);
        }
    }

    private void note(boolean holds, String otherwise) {
        if (holds) {
            passed++;
        } else {
            failed++;
            System.out.println(otherwise);
        }
    }
}
