import java.util.List;

/** Two objects of one past; one is asked something more by which nothing happens, so both must answer alike ever after. */
final class Twin {
    /** A call, or some calls one behind the other. */
    interface Calls {
        long on(CaseBefore x);
    }

    private Twin() {
    }

    static void nothingHappens(String name, Calls past, Calls calls, long want) {
        CaseBefore x = new CaseBefore();
        CaseBefore twin = new CaseBefore();
        past.on(x);
        past.on(twin);
        Due.is(name, calls.on(x), want);
        alike(name, x, twin);
    }

    /** The twin does something plainer instead, by which it must come to be as the other. */
    static void comeToTheSame(String name, Calls calls, Calls plainer) {
        CaseBefore x = new CaseBefore();
        CaseBefore twin = new CaseBefore();
        calls.on(x);
        plainer.on(twin);
        alike(name, x, twin);
    }

    private static void alike(String name, CaseBefore x, CaseBefore twin) {
        compare(name, Probe.asItIs(x), Probe.asItIs(twin));
        compare(name + ", going on", Probe.goingOn(x), Probe.goingOn(twin));
    }

    private static void compare(String name, List<String> got, List<String> want) {
        Due.is("rows behind " + name, got.size(), want.size());
        for (int i = 0; i < got.size() && i < want.size(); i++) {
            if (!got.get(i).equals(want.get(i))) {
                Due.differs("behind " + name + ": " + got.get(i) + ", without it: " + want.get(i));
                return;
            }
        }
    }

    static long bit(boolean so) {
        return so ? 1 : 0;
    }
}
