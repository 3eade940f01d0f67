import java.util.ArrayList;
import java.util.List;

/**
 * "A method that throws an exception leaves the state unchanged, unless its documentation says otherwise. If several
 * exceptions apply, the one that is documented first is thrown": every method with every fault and pair of faults.
 */
public final class RefusedCallsTest {
    interface Call {
        long answer(DroneCorridors x);
    }

    private static final int REASON = 3;
    private static final int ERROR = 1;

    // Where these two stand among everything.
    private static final int AT_REASON = 1;
    private static final int AT_INPUT = 3;

    public static void main(String[] arguments) {
        network();
        drones();
        plans();
        textsAndHistory();
        Checks.end();
    }

    /**
     * An object with all that fits: 10 nodes, 16 corridors, 6 drones of all states, 10 fences, a reason, an input,
     * an error position, something saved, and 8 changes.
     */
    private static DroneCorridors full() {
        DroneCorridors x = Build.nodes("pnpnnnnnnn");
        Checks.write(x, "nx");
        Checks.noArgument("read", x::read);
        for (int i = 0; i < 16; i++) {
            x.addCorridor(i % 3 == 0 ? 0 : 1, i % 3 == 2 ? 0 : 2, 3, 0);
        }
        x.addDrone(0, 100);
        x.addDrone(0, 1);
        x.addDrone(1, 1);
        x.addDrone(1, 100);
        x.addDrone(0, 100);
        Checks.noPlan("plan", () -> x.plan(1, 1));
        x.save();
        Build.passTo(x, 9980);
        for (int i = 0; i < 10; i++) {
            x.addFence(15, 7, i, 9000 + i);
        }
        x.plan(0, 1);
        x.addDrone(1, 9);
        x.plan(4, 2);
        x.advance(1);
        x.cancel(5);
        x.plan(4, 2);
        x.append('p');
        return x;
    }

    private static List<String> everything(DroneCorridors x) {
        List<String> all = new ArrayList<>();
        all.add(Checks.look(x));
        all.add("reason " + x.reason());
        all.add("error position " + x.errorPosition());
        all.add("input " + x.append('q'));
        for (int left = 8; left > 0; left--) {
            all.add(x.undo() + " changes are left\n" + Checks.look(x));
        }
        Checks.noElement("nine changes", x::undo);
        all.add("restored " + x.restore() + "\n" + Checks.look(x));
        return all;
    }

    private static void refused(String what, Class<? extends RuntimeException> want, Call call) {
        refusedBut(0, everything(full()).get(0), what, want, call);
    }

    /** A refused call that leaves everything unchanged but one thing. */
    private static void refusedBut(int but, String due, String what, Class<? extends RuntimeException> want, Call call) {
        DroneCorridors x = full();
        List<String> before = everything(full());
        Checks.refuses(what, want, () -> call.answer(x));
        List<String> behind = everything(x);
        for (int i = 0; i < before.size(); i++) {
            Checks.sameLook(what + " (" + i + ")", behind.get(i), i == but ? due : before.get(i));
        }
    }

    private static void noIndex(String what, Call call) {
        refused(what, IndexOutOfBoundsException.class, call);
    }

    private static void noArgument(String what, Call call) {
        refused(what, IllegalArgumentException.class, call);
    }

    private static void noState(String what, Call call) {
        refused(what, IllegalStateException.class, call);
    }

    private static void noElement(String what, Call call) {
        refused(what, java.util.NoSuchElementException.class, call);
    }

    private static void network() {
        DroneCorridors x = full();
        Checks.same("the reason", x.reason(), REASON);
        Checks.same("the error position", x.errorPosition(), ERROR);
        int[] want = {10, 16, 6, 10};
        for (int what = 0; what < 4; what++) {
            Checks.same("all that fits: count(" + what + ")", x.count(what), want[what]);
        }
        noState("addNode", y -> y.addNode(true));
        noIndex("addCorridor, all faults", y -> y.addCorridor(10, 10, 0, 1));
        noIndex("addCorridor, no first node", y -> y.addCorridor(-1, 0, 1, 0));
        noIndex("addCorridor, no second node", y -> y.addCorridor(0, 10, 1, 0));
        noArgument("addCorridor, same node, too many", y -> y.addCorridor(0, 0, 1, 0));
        noArgument("addCorridor, length 0, too many", y -> y.addCorridor(0, 1, 0, 0));
        noArgument("addCorridor, length 10, too many", y -> y.addCorridor(0, 1, 10, 0));
        noArgument("addCorridor, wind 2 of 1, too many", y -> y.addCorridor(0, 1, 1, 2));
        noState("addCorridor, too many", y -> y.addCorridor(0, 1, 1, 1));
        noIndex("setWind, both faults", y -> y.setWind(16, 10));
        noArgument("setWind, 4 of 3", y -> y.setWind(15, 4));
        noIndex("addFence, all faults", y -> y.addFence(16, 0, -1, -1));
        noArgument("addFence, no layers, too many", y -> y.addFence(0, 0, 0, 1));
        noArgument("addFence, layer 3, too many", y -> y.addFence(0, 8, 0, 1));
        noArgument("addFence, beginning -1, too many", y -> y.addFence(0, 1, -1, 1));
        noArgument("addFence, end 10001, too many", y -> y.addFence(0, 1, 0, 10001));
        noArgument("addFence, nothing, too many", y -> y.addFence(0, 1, 1, 1));
        noState("addFence, too many", y -> y.addFence(0, 1, 0, 1));
        noIndex("removeFence", y -> y.removeFence(10));
        noIndex("fence, both faults", y -> y.fence(10, 4));
        noArgument("fence", y -> y.fence(9, 4));
        noIndex("corridor, both faults", y -> y.corridor(16, 7));
        noArgument("corridor", y -> y.corridor(15, 7));
        noIndex("isPad", y -> y.isPad(10) ? 1 : 0);
        noIndex("reserve", y -> y.reserve(10));
        noElement("reserve without a pad", y -> y.reserve(9));
        noIndex("ticksBetween, from nowhere", y -> y.ticksBetween(10, 0));
        noIndex("ticksBetween, to nowhere", y -> y.ticksBetween(9, 10));
        noElement("ticksBetween", y -> y.ticksBetween(0, 9));
        noArgument("count", y -> y.count(9));
    }

    private static void drones() {
        noIndex("addDrone, all faults", y -> y.addDrone(10, 0));
        noArgument("addDrone, energy 0, too many", y -> y.addDrone(0, 0));
        noArgument("addDrone, energy 201, too many", y -> y.addDrone(0, 201));
        noState("addDrone, too many", y -> y.addDrone(0, 1));
        noIndex("drone, both faults", y -> y.drone(6, 7));
        noArgument("drone", y -> y.drone(5, 7));
        noIndex("cancel", y -> y.cancel(6));
        noIndex("drain, both faults", y -> y.drain(6, 0));
        noArgument("drain of a lost one, energy 0", y -> y.drain(2, 0));
        noArgument("drain of a lost one, energy 201", y -> y.drain(2, 201));
        noState("drain of a lost one", y -> y.drain(2, 200));
        noArgument("advance, 41", y -> y.advance(41));
        noArgument("advance, 0", y -> y.advance(0));
        noState("advance beyond the end of time", y -> y.advance(20));
        noIndex("placeAfter, both faults", y -> y.placeAfter(6, 41));
        noArgument("placeAfter", y -> y.placeAfter(5, 41));
        noIndex("uses, both faults", y -> y.uses(16, 3));
        noArgument("uses", y -> y.uses(15, 3));
        noIndex("account, both faults", y -> y.account(6, 5));
        noArgument("account", y -> y.account(5, 5));
    }

    private static void plans() {
        noIndex("plan of no drone", y -> y.plan(6, 0));
        noIndex("plan of a lost one to no node", y -> y.plan(2, 10));
        noIndex("arrival of no drone", y -> y.arrival(6, 0));
        noIndex("arrival of a lost one at no node", y -> y.arrival(2, 10));
        noElement("arrival of a lost one", y -> y.arrival(2, 1));
        noElement("arrival at a node without a reserve", y -> y.arrival(0, 9));
        noIndex("planEnergy of no drone", y -> y.planEnergy(6, 0));
        noIndex("planEnergy of a lost one to no node", y -> y.planEnergy(2, 10));
        noElement("planEnergy of a lost one", y -> y.planEnergy(2, 1));
        noIndex("leg of no drone, no number", y -> y.leg(6, 0, 5));
        noIndex("no leg, no number", y -> y.leg(4, 1, 5));
        noArgument("leg, no number", y -> y.leg(4, 0, 5));
        noIndex("nearestPad of no drone", y -> y.nearestPad(6));
        noElement("nearestPad of a lost one", y -> y.nearestPad(2));
        refusedBut(AT_REASON, "reason 1", "plan of a lost one", UnsupportedOperationException.class, y -> y.plan(2, 1));
        refusedBut(AT_REASON, "reason 2", "plan without a reserve", UnsupportedOperationException.class,
                y -> y.plan(0, 9));
    }

    private static void textsAndHistory() {
        refusedBut(AT_INPUT, "input 1", "read of no text", IllegalArgumentException.class, y -> y.read());
        refusedBut(AT_INPUT, "input 1", "read of a text that cannot be done", IllegalStateException.class, y -> {
            y.append(';');
            return y.read();
        });
        noArgument("append of 31", y -> y.append((char) 31));
        noArgument("append of 127", y -> y.append((char) 127));
        noIndex("describe, both faults", y -> y.describe(16, 7));
        noElement("describe", y -> y.describe(15, 7));
        DroneCorridors x = new DroneCorridors();
        Checks.noElement("reason", x::reason);
        Checks.noElement("errorPosition", x::errorPosition);
        Checks.noElement("busiest", x::busiest);
        Checks.refuses("flyingShare", ArithmeticException.class, () -> (long) x.flyingShare());
        Checks.noElement("undo", x::undo);
        Checks.noState("restore", x::restore);
        Checks.same("nothing is different", x.count(0) + x.count(4), 0);
    }
}
