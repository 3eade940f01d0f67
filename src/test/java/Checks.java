import java.util.NoSuchElementException;

/** What the tests share: comparing answers, and runs that end with an exit code. */
final class Checks {
    interface Call {
        long answer();
    }

    private static int wrong = 0;
    private static int made = 0;

    private Checks() {
    }

    static void same(String what, long got, long want) {
        made++;
        if (got != want) {
            wrong++;
            System.out.println(what + " answered " + got + ", due is " + want);
        }
    }

    static void isTrue(String what, boolean holds) {
        same(what, holds ? 1 : 0, 1);
    }

    static void refuses(String what, Class<? extends RuntimeException> want, Call call) {
        made++;
        try {
            long got = call.answer();
            wrong++;
            System.out.println(what + " answered " + got + ", due is " + want.getSimpleName());
        } catch (RuntimeException e) {
            if (e.getClass() != want) {
                wrong++;
                System.out.println(what + " threw " + e + ", due is " + want.getSimpleName());
            }
        }
    }

    static void noIndex(String what, Call call) {
        refuses(what, IndexOutOfBoundsException.class, call);
    }

    static void noArgument(String what, Call call) {
        refuses(what, IllegalArgumentException.class, call);
    }

    static void noState(String what, Call call) {
        refuses(what, IllegalStateException.class, call);
    }

    static void noElement(String what, Call call) {
        refuses(what, NoSuchElementException.class, call);
    }

    static void noPlan(String what, Call call) {
        refuses(what, UnsupportedOperationException.class, call);
    }

    /** All that can be asked of the object without changing it, as a text. */
    static String look(DroneCorridors x) {
        StringBuilder all = new StringBuilder();
        for (int what = 0; what <= 8; what++) {
            all.append(x.count(what)).append(' ');
        }
        lookAtNetwork(x, all);
        for (int drone = 0; drone < x.count(2); drone++) {
            all.append("\ndrone ").append(drone).append(':');
            for (int what = 0; what <= 6; what++) {
                all.append(' ').append(x.drone(drone, what));
            }
            all.append(" accounts");
            for (int account = 0; account <= 4; account++) {
                all.append(' ').append(x.account(drone, account));
            }
            for (int leg = 0; leg < x.drone(drone, 5); leg++) {
                all.append(" leg");
                for (int what = 0; what <= 4; what++) {
                    all.append(' ').append(x.leg(drone, leg, what));
                }
            }
        }
        all.append("\nsets ").append(x.struck()).append(' ').append(x.low()).append(' ').append(x.audit());
        all.append(' ').append(x.pairs(true)).append(' ').append(x.pairs(false));
        return all.toString();
    }

    private static void lookAtNetwork(DroneCorridors x, StringBuilder all) {
        for (int node = 0; node < x.count(0); node++) {
            all.append(x.isPad(node) ? 'p' : 'n');
        }
        for (int corridor = 0; corridor < x.count(1); corridor++) {
            all.append("\ncorridor ").append(corridor).append(':');
            for (int what = 0; what <= 6; what++) {
                all.append(' ').append(x.corridor(corridor, what));
            }
        }
        for (int fence = 0; fence < x.count(3); fence++) {
            all.append("\nfence ").append(fence).append(':');
            for (int what = 0; what <= 3; what++) {
                all.append(' ').append(x.fence(fence, what));
            }
        }
    }

    static void sameLook(String what, String got, String want) {
        made++;
        if (!got.equals(want)) {
            wrong++;
            System.out.println(what + " left\n" + got + "\ndue is\n" + want);
        }
    }

    static void write(DroneCorridors x, String text) {
        for (int i = 0; i < text.length(); i++) {
            x.append(text.charAt(i));
        }
    }

    static int wrong() {
        return wrong;
    }

    static void end() {
        System.out.println(made + " checks, " + wrong + " wrong");
        if (wrong != 0) {
            System.exit(1);
        }
    }
}
