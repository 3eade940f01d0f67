/** Promises 1 to 13: the new object, clear, nodes, corridors, fences, reserves, ticks and counts. */
public final class NetworkTest {
    public static void main(String[] arguments) {
        newObject();
        clear();
        nodes();
        corridors();
        winds();
        fences();
        fencesStrike();
        reserves();
        ticks();
        counts();
        Checks.end();
    }

    private static void newObject() {
        DroneCorridors x = new DroneCorridors();
        for (int what = 0; what <= 8; what++) {
            Checks.same("new: count " + what, x.count(what), 0);
        }
        Checks.same("new: struck", x.struck(), 0);
        Checks.same("new: low", x.low(), 0);
        Checks.same("new: audit", x.audit(), 0);
        Checks.same("new: pairs", x.pairs(true) + x.pairs(false), 0);
        Checks.same("new: reroute", x.reroute(), 0);
        Checks.noElement("new: reason", x::reason);
        Checks.noElement("new: errorPosition", x::errorPosition);
        Checks.noState("new: restore", x::restore);
        Checks.refuses("new: flyingShare", ArithmeticException.class, () -> (long) x.flyingShare());
        Checks.noElement("new: busiest", x::busiest);
        DroneCorridors y = new DroneCorridors();
        Checks.noElement("new: undo", y::undo);
    }

    private static void clear() {
        DroneCorridors x = new DroneCorridors();
        Checks.same("clear of nothing", x.clear(), 0);
        x.addNode(true);
        x.addNode(false);
        x.addCorridor(0, 1, 2, 0);
        x.addDrone(0, 1);
        Checks.noPlan("plan", () -> x.plan(0, 1));
        x.addFence(0, 1, 0, 1);
        x.advance(7);
        x.save();
        Checks.write(x, "x");
        Checks.noArgument("read", x::read);
        Checks.write(x, "p");
        Checks.same("clear", x.clear(), 2);
        for (int what = 0; what <= 8; what++) {
            Checks.same("clear: count " + what, x.count(what), 0);
        }
        Checks.noElement("clear forgets the changes", x::undo);
        Checks.same("clear keeps the reason", x.reason(), 3);
        Checks.same("clear keeps the error position", x.errorPosition(), 0);
        Checks.same("clear keeps the input", x.append(';'), 2);
        Checks.same("clear keeps what was saved", x.restore(), 2);
        Checks.same("clear: time of what was saved", x.count(4), 7);
        x.clear();
        Checks.same("a node after clear", x.addNode(false), 0);
        Checks.isTrue("a node after clear is no pad", !x.isPad(0));
        Checks.same("a drone after clear", x.addDrone(0, 9), 0);
        Checks.same("a drone after clear has no legs", x.account(0, 4), 0);
    }

    private static void nodes() {
        DroneCorridors x = new DroneCorridors();
        for (int node = 0; node < 10; node++) {
            Checks.same("addNode", x.addNode(node % 3 == 0), node);
        }
        Checks.noState("an eleventh node", () -> x.addNode(true));
        Checks.same("10 nodes", x.count(0), 10);
        for (int node = 0; node < 10; node++) {
            Checks.same("isPad", x.isPad(node) ? 1 : 0, node % 3 == 0 ? 1 : 0);
        }
        Checks.noIndex("isPad(-1)", () -> x.isPad(-1) ? 1 : 0);
        Checks.noIndex("isPad(10)", () -> x.isPad(10) ? 1 : 0);
        Checks.noIndex("isPad of the least number", () -> x.isPad(Integer.MIN_VALUE) ? 1 : 0);
    }

    private static void corridors() {
        DroneCorridors x = new DroneCorridors();
        x.addNode(true);
        x.addNode(false);
        Checks.noIndex("addCorridor from -1", () -> x.addCorridor(-1, 0, 1, 0));
        Checks.noIndex("addCorridor to 2", () -> x.addCorridor(0, 2, 1, 0));
        Checks.noIndex("addCorridor with two faults", () -> x.addCorridor(2, 2, 0, 0));
        Checks.noArgument("addCorridor to the same node", () -> x.addCorridor(1, 1, 1, 0));
        Checks.noArgument("addCorridor of length 0", () -> x.addCorridor(0, 1, 0, 0));
        Checks.noArgument("addCorridor of length 10", () -> x.addCorridor(0, 1, 10, 0));
        Checks.noArgument("addCorridor with wind 4 of 3", () -> x.addCorridor(0, 1, 3, 4));
        Checks.noArgument("addCorridor with wind -4 of 3", () -> x.addCorridor(0, 1, 3, -4));
        Checks.noArgument("addCorridor with the least wind", () -> x.addCorridor(0, 1, 3, Integer.MIN_VALUE));
        Checks.same("no corridor", x.count(1), 0);
        Checks.same("addCorridor", x.addCorridor(1, 0, 9, -9), 0);
        int[] want = {1, 0, 9, -9, 27, 9, 0};
        for (int what = 0; what < want.length; what++) {
            Checks.same("corridor(0, " + what + ")", x.corridor(0, what), want[what]);
        }
        for (int number = 1; number < 16; number++) {
            Checks.same("addCorridor", x.addCorridor(0, 1, 1 + number % 9, 1), number);
        }
        Checks.noState("a seventeenth corridor", () -> x.addCorridor(0, 1, 1, 1));
        Checks.noArgument("a seventeenth, wrong corridor", () -> x.addCorridor(0, 1, 1, 2));
        Checks.same("16 corridors", x.count(1), 16);
        Checks.noIndex("corridor(-1, 0)", () -> x.corridor(-1, 0));
        Checks.noIndex("corridor(16, 9)", () -> x.corridor(16, 9));
        Checks.noArgument("corridor(0, -1)", () -> x.corridor(0, -1));
        Checks.noArgument("corridor(0, 7)", () -> x.corridor(0, 7));
        x.addDrone(0, 50);
        x.addDrone(1, 50);
        x.plan(0, 1);
        x.plan(1, 0);
        int used = x.leg(0, 0, 0);
        int usedBack = x.leg(1, 0, 0);
        Checks.same("nothing flies before the tick", x.corridor(used, 6), 0);
        x.advance(1);
        Checks.same("plans of one tick are over", x.corridor(used, 6) + x.corridor(usedBack, 6), 0);
        x.plan(0, 0);
        x.advance(1);
        DroneCorridors y = new DroneCorridors();
        y.addNode(true);
        y.addNode(false);
        y.addCorridor(0, 1, 2, 0);
        for (int drone = 0; drone < 3; drone++) {
            y.addDrone(0, 30);
        }
        y.plan(2, 1);
        y.plan(0, 1);
        y.advance(1);
        Checks.same("drones that fly", y.corridor(0, 6), 0b101);
        y.advance(1);
        Checks.same("drones that do not fly any more", y.corridor(0, 6), 0);
        y.addNode(true);
        y.addCorridor(1, 2, 2, 0);
        y.plan(1, 2);
        y.advance(3);
        Checks.same("a drone in corridor 1", y.corridor(1, 6), 0b010);
        Checks.same("none in corridor 0", y.corridor(0, 6), 0);
    }

    private static void winds() {
        DroneCorridors x = new DroneCorridors();
        x.addNode(true);
        x.addNode(false);
        x.addCorridor(0, 1, 4, 1);
        x.addDrone(0, 50);
        x.addDrone(0, 50);
        x.plan(0, 1);
        Checks.same("setWind", x.setWind(0, -4), 1);
        Checks.same("setWind again", x.setWind(0, 4), -4);
        Checks.same("the energy by the wind", x.corridor(0, 4), 4);
        Checks.same("the energy back by the wind", x.corridor(0, 5), 12);
        Checks.noArgument("setWind 5", () -> x.setWind(0, 5));
        Checks.noArgument("setWind -5", () -> x.setWind(0, -5));
        Checks.noArgument("setWind least", () -> x.setWind(0, Integer.MIN_VALUE));
        Checks.noIndex("setWind of corridor 1", () -> x.setWind(1, 99));
        Checks.noIndex("setWind of corridor -1", () -> x.setWind(-1, 0));
        Checks.same("the plan stays", x.drone(0, 5), 1);
        x.advance(1);
        Checks.same("the leg takes energy by the wind at its start", x.drone(0, 1), 46);
        x.setWind(0, 0);
        x.advance(1);
        Checks.same("a later wind takes nothing", x.drone(0, 1), 46);
    }

    private static void fences() {
        DroneCorridors x = new DroneCorridors();
        x.addNode(true);
        x.addNode(false);
        x.addCorridor(0, 1, 4, 1);
        Checks.noIndex("addFence in corridor 1", () -> x.addFence(1, 0, 5, 5));
        Checks.noIndex("addFence in corridor -1", () -> x.addFence(-1, 1, 0, 5));
        Checks.noArgument("addFence without layers", () -> x.addFence(0, 0, 0, 5));
        Checks.noArgument("addFence with layer 3", () -> x.addFence(0, 8, 0, 5));
        Checks.noArgument("addFence from -1", () -> x.addFence(0, 7, -1, 5));
        Checks.noArgument("addFence of nothing", () -> x.addFence(0, 7, 5, 5));
        Checks.noArgument("addFence backwards", () -> x.addFence(0, 7, 5, 4));
        Checks.noArgument("addFence to 10001", () -> x.addFence(0, 7, 5, 10001));
        for (int number = 0; number < 10; number++) {
            Checks.same("addFence", x.addFence(0, 1 + number % 7, number, number == 9 ? 10000 : number + 1), 0);
        }
        Checks.noState("an eleventh fence", () -> x.addFence(0, 7, 0, 5));
        Checks.noArgument("an eleventh, wrong fence", () -> x.addFence(0, 9, 0, 5));
        Checks.same("10 fences", x.count(3), 10);
        int[] last = {0, 3, 9, 10000};
        for (int what = 0; what < 4; what++) {
            Checks.same("fence(9, " + what + ")", x.fence(9, what), last[what]);
        }
        Checks.noIndex("fence(10, 0)", () -> x.fence(10, 0));
        Checks.noIndex("fence(-1, 5)", () -> x.fence(-1, 5));
        Checks.noArgument("fence(0, 4)", () -> x.fence(0, 4));
        Checks.noArgument("fence(0, -1)", () -> x.fence(0, -1));
        Checks.noIndex("removeFence(10)", () -> x.removeFence(10));
        Checks.noIndex("removeFence(-1)", () -> x.removeFence(-1));
        Checks.same("removeFence", x.removeFence(3), 0);
        Checks.same("9 fences", x.count(3), 9);
        Checks.same("a fence before it", x.fence(2, 2), 2);
        Checks.same("a fence behind it", x.fence(3, 2), 4);
        Checks.same("the last fence", x.fence(8, 3), 10000);
        Checks.noIndex("no fence 9", () -> x.removeFence(9));
        Checks.same("removeFence of the last", x.removeFence(8), 0);
        Checks.same("8 fences", x.count(3), 8);
    }

    private static void fencesStrike() {
        DroneCorridors x = new DroneCorridors();
        x.addNode(true);
        x.addNode(false);
        x.addCorridor(0, 1, 4, 0);
        x.addCorridor(0, 1, 5, 0);
        x.addDrone(0, 50);
        x.addDrone(0, 50);
        x.advance(5);
        x.plan(0, 1);
        x.plan(1, 1);
        Checks.same("the second on layer 1", x.leg(1, 0, 2), 1);
        Checks.same("another corridor", x.addFence(1, 7, 0, 100), 0);
        Checks.same("up to the start", x.addFence(0, 7, 0, 5), 0);
        Checks.same("from the end on", x.addFence(0, 7, 9, 20), 0);
        Checks.same("another layer", x.addFence(0, 4, 0, 100), 0);
        Checks.same("the last tick on layer 0", x.addFence(0, 1, 8, 9), 0b01);
        Checks.same("the first tick on layer 1", x.addFence(0, 2, 5, 6), 0b11);
        Checks.same("struck", x.struck(), 0b11);
        Checks.same("removeFence of one that struck", x.removeFence(4), 0b10);
        Checks.same("removeFence of one that did not", x.removeFence(0), 0b10);
        x.advance(1);
        Checks.same("a leg that is flown is not struck", x.struck(), 0);
        Checks.same("nor by a new fence", x.addFence(0, 7, 0, 100), 0);
        Checks.same("nor when one is removed", x.removeFence(0), 0);
        x.advance(3);
        Checks.same("the drones went on", x.drone(1, 3), 1);
    }

    private static void reserves() {
        DroneCorridors x = new DroneCorridors();
        x.addNode(true);
        x.addNode(false);
        x.addNode(false);
        x.addNode(true);
        x.addNode(false);
        x.addCorridor(0, 1, 9, -9);
        x.addCorridor(1, 2, 3, 1);
        x.addCorridor(2, 3, 4, 0);
        Checks.same("reserve of a pad", x.reserve(0), 0);
        Checks.same("reserve against the wind's direction", x.reserve(1), 9);
        Checks.same("reserve of the other node", x.reserve(2), 8);
        x.setWind(0, 9);
        Checks.same("reserve over another node", x.reserve(1), 13);
        x.setWind(2, -4);
        Checks.same("reserve over the longer way", x.reserve(2), 12);
        Checks.noElement("reserve without a pad", () -> x.reserve(4));
        Checks.noIndex("reserve(5)", () -> x.reserve(5));
        Checks.noIndex("reserve(-1)", () -> x.reserve(-1));
        x.addFence(0, 7, 0, 10000);
        x.addFence(2, 7, 0, 10000);
        Checks.same("reserve whatever fences there are", x.reserve(2), 12);
        x.addCorridor(4, 3, 2, -2);
        Checks.same("reserve by a new corridor", x.reserve(4), 6);
    }

    private static void ticks() {
        DroneCorridors x = new DroneCorridors();
        for (int node = 0; node < 5; node++) {
            x.addNode(false);
        }
        x.addCorridor(0, 1, 9, 9);
        x.addCorridor(0, 2, 4, -4);
        x.addCorridor(3, 2, 3, 3);
        x.addCorridor(3, 1, 1, 0);
        Checks.same("ticks over three corridors", x.ticksBetween(0, 1), 8);
        Checks.same("ticks back", x.ticksBetween(1, 0), 8);
        Checks.same("ticks to the same node", x.ticksBetween(4, 4), 0);
        x.addFence(2, 7, 0, 10000);
        Checks.same("ticks whatever fences there are", x.ticksBetween(0, 3), 7);
        Checks.noElement("ticks without a way", () -> x.ticksBetween(0, 4));
        Checks.noIndex("ticks from -1", () -> x.ticksBetween(-1, 0));
        Checks.noIndex("ticks to 5", () -> x.ticksBetween(0, 5));
        x.addCorridor(0, 1, 7, 0);
        Checks.same("ticks of a shorter corridor", x.ticksBetween(0, 1), 7);
    }

    private static void counts() {
        DroneCorridors x = new DroneCorridors();
        x.addNode(true);
        x.addNode(false);
        x.addCorridor(0, 1, 5, 0);
        x.addDrone(0, 50);
        x.addDrone(0, 50);
        x.addDrone(1, 1);
        x.addDrone(1, 2);
        x.addFence(0, 7, 100, 101);
        x.plan(1, 1);
        x.advance(1);
        int[] want = {2, 1, 4, 1, 1, 1, 1, 1, 1};
        for (int what = 0; what <= 8; what++) {
            Checks.same("count(" + what + ")", x.count(what), want[what]);
        }
        Checks.noArgument("count(-1)", () -> x.count(-1));
        Checks.noArgument("count(9)", () -> x.count(9));
    }
}
