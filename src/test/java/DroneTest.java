/** Promises 14, 15, 20, 21, 25, 27 to 34: drones, ticks, separation in counts and accounts. */
public final class DroneTest {
    public static void main(String[] arguments) {
        adding();
        numbers();
        cancels();
        drains();
        lows();
        advancing();
        landing();
        losing();
        places();
        pairsAndUses();
        accounts();
        Checks.end();
    }

    /** A pad 0, a node 1, a pad 2; corridors 0-1 of 3 ticks and 1-2 of 2 ticks. */
    private static DroneCorridors line() {
        DroneCorridors x = new DroneCorridors();
        x.addNode(true);
        x.addNode(false);
        x.addNode(true);
        x.addCorridor(0, 1, 3, 0);
        x.addCorridor(1, 2, 2, 0);
        return x;
    }

    private static void state(String what, DroneCorridors x, int drone, int... want) {
        for (int i = 0; i < want.length; i++) {
            Checks.same(what + ": drone(" + drone + ", " + i + ")", x.drone(drone, i), want[i]);
        }
    }

    private static void adding() {
        DroneCorridors x = line();
        Checks.noIndex("addDrone at 3", () -> x.addDrone(3, 0));
        Checks.noIndex("addDrone at -1", () -> x.addDrone(-1, 5));
        Checks.noArgument("addDrone with 0", () -> x.addDrone(0, 0));
        Checks.noArgument("addDrone with 201", () -> x.addDrone(0, 201));
        Checks.same("addDrone at a pad", x.addDrone(2, 200), 0);
        Checks.same("addDrone at a node", x.addDrone(1, 1), 1);
        state("at a pad", x, 0, 0, 200, 0, 2, -1, 0, 0);
        state("at a node", x, 1, 1, 1, 0, 1, -1, 0, 0);
        for (int drone = 2; drone < 6; drone++) {
            Checks.same("addDrone", x.addDrone(0, 9), drone);
        }
        Checks.noState("a seventh drone", () -> x.addDrone(0, 9));
        Checks.noArgument("a seventh, wrong drone", () -> x.addDrone(0, 0));
        Checks.noIndex("drone(6, 0)", () -> x.drone(6, 0));
        Checks.noIndex("drone(-1, 9)", () -> x.drone(-1, 9));
        Checks.noArgument("drone(0, 7)", () -> x.drone(0, 7));
        Checks.noArgument("drone(0, -1)", () -> x.drone(0, -1));
    }

    private static void numbers() {
        DroneCorridors x = line();
        x.addDrone(0, 50);
        x.addDrone(0, 50);
        x.plan(0, 2);
        x.plan(1, 2);
        state("planned", x, 1, 0, 50, 0, 0, 2, 2, 5);
        x.advance(1);
        state("flying", x, 1, 2, 43, 1, 1, 2, 2, 5);
        x.advance(2);
        state("between legs", x, 1, 1, 43, 1, 1, 2, 1, 5);
        x.advance(2);
        state("landed", x, 1, 0, 39, 0, 2, 2, 0, 5);
        x.advance(1);
        state("charged", x, 1, 0, 42, 0, 2, 2, 0, 6);
    }

    private static void cancels() {
        DroneCorridors x = line();
        x.addDrone(0, 50);
        x.addDrone(1, 2);
        x.addDrone(2, 50);
        x.plan(0, 2);
        Checks.same("cancel before the start", x.cancel(0), 2);
        state("canceled before the start", x, 0, 0, 50, 0, 0, -1, 0, 0);
        x.plan(0, 2);
        x.plan(2, 1);
        x.plan(1, 1);
        x.advance(1);
        Checks.same("cancel while it flies", x.cancel(0), 1);
        state("canceled while it flies", x, 0, 2, 44, 0, 1, 1, 1, 3);
        Checks.same("cancel again", x.cancel(0), 0);
        Checks.same("the destination stays", x.drone(0, 4), 1);
        x.advance(2);
        state("canceled and arrived at a node", x, 0, 1, 44, 0, 1, 1, 0, 3);
        Checks.same("cancel of a hovering one", x.cancel(0), 0);
        Checks.same("no destination", x.drone(0, 4), -1);
        state("lost", x, 1, 3, 0, 0, 1, 1, 0, 3);
        Checks.same("cancel of a lost one", x.cancel(1), 0);
        state("lost and canceled", x, 1, 3, 0, 0, 1, -1, 0, 3);
        Checks.noIndex("cancel(3)", () -> x.cancel(3));
        Checks.noIndex("cancel(-1)", () -> x.cancel(-1));
        DroneCorridors y = line();
        y.addNode(false);
        y.addCorridor(2, 3, 2, 0);
        y.addDrone(1, 50);
        y.plan(0, 3);
        y.advance(1);
        Checks.same("cancel on the way to a pad", y.cancel(0), 1);
        Checks.same("it lands there", y.advance(1), 1);
        state("canceled and landed", y, 0, 0, 46, 0, 2, 2, 0, 2);
    }

    private static void drains() {
        DroneCorridors x = line();
        x.addDrone(0, 50);
        x.addDrone(1, 50);
        x.addDrone(0, 20);
        Checks.same("drain of a landed one", x.drain(0, 49), 1);
        Checks.same("drain of more than there is", x.drain(0, 2), 0);
        state("drained, landed", x, 0, 0, 0, 0, 0, -1, 0, 0);
        Checks.same("drain of a hovering one", x.drain(1, 49), 1);
        x.plan(1, 1);
        Checks.same("drain of all", x.drain(1, 200), 0);
        state("drained, lost", x, 1, 3, 0, 0, 1, 1, 0, 0);
        Checks.noState("drain of a lost one", () -> x.drain(1, 1));
        Checks.noArgument("drain of 0 of a lost one", () -> x.drain(1, 0));
        Checks.noArgument("drain of 201", () -> x.drain(0, 201));
        Checks.noIndex("drain of no drone", () -> x.drain(3, 0));
        Checks.noIndex("drain of drone -1", () -> x.drain(-1, 1));
        x.plan(2, 1);
        x.advance(1);
        Checks.same("drain of a flying one", x.drain(2, 4), 10);
        Checks.same("drain of a flying one of all", x.drain(2, 10), 1);
        Checks.same("drain of the last", x.drain(2, 1), 1);
        Checks.same("it still flies", x.drone(2, 0), 2);
        Checks.same("audit counts the drain", x.audit(), 0);
        Checks.same("no account of it", x.account(2, 0) + x.account(2, 1) + x.account(2, 2), 6);
        DroneCorridors y = line();
        y.addDrone(0, 12);
        y.plan(0, 1);
        y.drain(0, 6);
        y.advance(1);
        Checks.same("a leg that takes all", y.drone(0, 1), 0);
        Checks.same("drain of a flying one with 0", y.drain(0, 1), 0);
        Checks.same("it still flies with 0", y.drone(0, 0), 2);
        y.advance(2);
        state("hovering with 0", y, 0, 1, 0, 0, 1, 1, 0, 3);
        y.save();
        Checks.same("drain of a hovering one with 0", y.drain(0, 1), 0);
        Checks.same("which is lost", y.drone(0, 0), 3);
        y.restore();
        y.advance(1);
        Checks.same("or lost in the tick", y.drone(0, 0), 3);
        Checks.same("and hovering took nothing", y.account(0, 2), 0);
        Checks.same("audit", y.audit(), 0);
        DroneCorridors z = line();
        z.addDrone(1, 9);
        z.addFence(1, 7, 0, 2);
        z.plan(0, 2);
        Checks.same("a leg of a hovering one", z.drone(0, 5), 1);
        z.drain(0, 9);
        state("its legs are removed", z, 0, 3, 0, 0, 1, 2, 0, 0);
        Checks.same("no leg uses the corridor", z.uses(1, -1), 0);
    }

    private static void lows() {
        DroneCorridors x = line();
        x.addNode(false);
        x.addDrone(1, 4);
        x.addDrone(1, 3);
        x.addDrone(3, 200);
        x.addDrone(0, 1);
        Checks.same("low", x.low(), 0b110);
        x.advance(1);
        Checks.same("low a tick later", x.low(), 0b111);
        x.advance(2);
        Checks.same("low without the lost one", x.low(), 0b101);
        x.setWind(1, 2);
        x.drain(3, 1);
        Checks.same("low by the wind", x.low(), 0b101);
        DroneCorridors y = line();
        y.addDrone(1, 2);
        y.setWind(1, 2);
        Checks.same("exactly the reserve", y.low(), 0);
        y.setWind(1, 1);
        Checks.same("less than the reserve", y.low(), 1);
    }

    private static void advancing() {
        DroneCorridors x = line();
        x.addDrone(0, 50);
        x.addDrone(1, 50);
        x.addDrone(0, 198);
        Checks.noArgument("advance(0)", () -> x.advance(0));
        Checks.noArgument("advance(41)", () -> x.advance(41));
        Checks.noArgument("advance(-1)", () -> x.advance(-1));
        Checks.same("advance(40)", x.advance(40), 0);
        Checks.same("the time", x.count(4), 40);
        state("charged", x, 0, 0, 170, 0, 0, -1, 0, 40);
        state("hovered", x, 1, 1, 10, 0, 1, -1, 0, 40);
        state("full", x, 2, 0, 200, 0, 0, -1, 0, 40);
        Checks.same("what was gained to the full", x.account(2, 3), 2);
        for (int i = 0; i < 248; i++) {
            x.advance(40);
        }
        Checks.same("the time", x.count(4), 9960);
        Checks.same("up to 10000", x.advance(39), 0);
        Checks.noState("beyond 10000", () -> x.advance(2));
        Checks.noArgument("beyond all", () -> x.advance(Integer.MAX_VALUE));
        Checks.same("the plan may end later", x.plan(0, 1), 10002);
        Checks.same("the last tick", x.advance(1), 0);
        Checks.noState("no more ticks", () -> x.advance(1));
        Checks.same("the place behind the end of time", x.placeAfter(0, 2), 1);
    }

    private static void landing() {
        DroneCorridors x = line();
        x.addDrone(0, 50);
        x.addDrone(0, 50);
        x.addDrone(2, 50);
        x.plan(0, 2);
        x.plan(1, 2);
        x.plan(2, 1);
        Checks.same("two land", x.advance(40), 2);
        Checks.same("landed", x.count(5), 2);
        Checks.same("no gain in the tick of the landing", x.account(0, 3), 35 * 3);
        DroneCorridors y = line();
        y.addDrone(0, 50);
        y.addFence(0, 7, 0, 4);
        y.plan(0, 1);
        Checks.same("the start behind the fence", y.leg(0, 0, 3), 4);
        y.advance(4);
        state("landed until the start", y, 0, 0, 62, 0, 0, 1, 1, 7);
        y.advance(1);
        Checks.same("no gain while it starts", y.account(0, 3), 12);
        y.advance(2);
        state("at its destination, which is no pad", y, 0, 1, 56, 0, 1, 1, 0, 7);
        y.plan(0, 2);
        y.addFence(1, 7, 9, 20);
        y.cancel(0);
        y.plan(0, 2);
        y.advance(2);
        Checks.same("landed at the other pad", y.drone(0, 0), 0);
    }

    private static void losing() {
        DroneCorridors x = line();
        x.addDrone(0, 50);
        x.plan(0, 2);
        x.setWind(0, -3);
        x.drain(0, 42);
        x.advance(1);
        state("without energy for its leg", x, 0, 0, 11, 0, 0, -1, 0, 1);
        Checks.same("it gained in that tick", x.account(0, 3), 3);
        Checks.same("no leg was started", x.account(0, 4), 0);
        DroneCorridors y = line();
        y.addDrone(0, 50);
        y.plan(0, 2);
        y.advance(1);
        y.drain(0, 41);
        y.advance(2);
        state("with little energy", y, 0, 1, 3, 0, 1, 2, 1, 5);
        y.advance(1);
        state("without energy for its second leg", y, 0, 1, 2, 0, 1, -1, 0, 4);
        y.plan(0, 1);
        y.advance(1);
        state("hovering on", y, 0, 1, 1, 0, 1, 1, 0, 5);
        y.advance(1);
        state("lost", y, 0, 3, 0, 0, 1, 1, 0, 6);
        y.advance(4);
        state("lost for good", y, 0, 3, 0, 0, 1, 1, 0, 10);
        Checks.same("hovering", y.account(0, 2), 3);
        DroneCorridors z = line();
        z.addDrone(1, 7);
        z.addFence(1, 7, 0, 3);
        z.plan(0, 2);
        Checks.same("just enough", z.drone(0, 6), 5);
        z.drain(0, 5);
        z.advance(2);
        state("lost before its leg", z, 0, 3, 0, 0, 1, 2, 0, 2);
        Checks.same("nothing struck or used", z.struck() + z.uses(1, -1), 0);
    }

    private static void places() {
        DroneCorridors x = line();
        x.addDrone(0, 50);
        x.addDrone(1, 2);
        x.addDrone(0, 50);
        x.advance(1);
        x.plan(0, 2);
        int[] want = {0, 100, 100, 1, 101, 2, 2};
        String before = Checks.look(x);
        for (int ticks = 0; ticks < want.length; ticks++) {
            Checks.same("placeAfter " + ticks, x.placeAfter(0, ticks), want[ticks]);
        }
        Checks.same("placeAfter 40", x.placeAfter(0, 40), 2);
        Checks.same("placeAfter of one that will be lost", x.placeAfter(1, 40), 1);
        Checks.same("placeAfter of a landed one", x.placeAfter(2, 40), 0);
        Checks.sameLook("placeAfter", Checks.look(x), before);
        x.advance(1);
        Checks.same("placeAfter of a flying one", x.placeAfter(0, 0), 100);
        Checks.same("placeAfter at the end of its leg", x.placeAfter(0, 2), 1);
        x.drain(0, 44);
        Checks.same("placeAfter without energy for the next leg", x.placeAfter(0, 4), 1);
        Checks.same("placeAfter of a lost one", x.placeAfter(1, 0), 1);
        Checks.noIndex("placeAfter of no drone", () -> x.placeAfter(3, 41));
        Checks.noIndex("placeAfter of drone -1", () -> x.placeAfter(-1, 0));
        Checks.noArgument("placeAfter 41", () -> x.placeAfter(0, 41));
        Checks.noArgument("placeAfter -1", () -> x.placeAfter(0, -1));
        DroneCorridors y = line();
        y.addDrone(0, 12);
        y.addFence(0, 7, 0, 4);
        y.plan(0, 1);
        y.drain(0, 10);
        Checks.same("placeAfter counts what it gains", y.placeAfter(0, 5), 100);
        y.drain(0, 2);
        y.setWind(0, -3);
        Checks.same("placeAfter with enough gained", y.placeAfter(0, 7), 1);
        y.setWind(0, -3);
        y.advance(2);
        y.drain(0, 6);
        Checks.same("placeAfter with too little gained", y.placeAfter(0, 6), 0);
    }

    private static void pairsAndUses() {
        DroneCorridors x = line();
        x.addDrone(0, 100);
        x.addDrone(0, 100);
        x.addDrone(2, 100);
        x.addDrone(0, 100);
        x.addDrone(0, 100);
        for (int layer = 0; layer < 3; layer++) {
            x.addFence(0, 7 & ~1, 0, 100);
        }
        x.plan(0, 1);
        x.plan(1, 1);
        Checks.same("the second starts 2 later", x.leg(1, 0, 3), 2);
        Checks.same("pairs", x.pairs(true), 1);
        Checks.same("pairs that are not separated", x.pairs(false), 0);
        x.plan(2, 0);
        Checks.same("the opposite one waits", x.leg(2, 1, 3), 5);
        Checks.same("pairs of three", x.pairs(true), 3);
        Checks.same("uses", x.uses(0, -1), 3);
        Checks.same("uses on layer 0", x.uses(0, 0), 3);
        Checks.same("uses on layer 1", x.uses(0, 1), 0);
        Checks.same("uses on layer 2", x.uses(0, 2), 0);
        Checks.same("uses of the other corridor", x.uses(1, -1), 1);
        x.advance(1);
        Checks.same("pairs with one that flies", x.pairs(true), 3);
        Checks.same("uses with one that flies", x.uses(0, 0), 3);
        x.advance(2);
        Checks.same("pairs without one that is past", x.pairs(true), 1);
        Checks.same("uses without one that is past", x.uses(0, -1), 2);
        Checks.noIndex("uses(2, 3)", () -> x.uses(2, 3));
        Checks.noIndex("uses(-1, 0)", () -> x.uses(-1, 0));
        Checks.noArgument("uses(0, 3)", () -> x.uses(0, 3));
        Checks.noArgument("uses(0, -2)", () -> x.uses(0, -2));
    }

    private static void accounts() {
        DroneCorridors x = line();
        x.addDrone(0, 50);
        x.addDrone(0, 50);
        x.addDrone(1, 50);
        Checks.noElement("nobody started", x::busiest);
        x.advance(1);
        Checks.refuses("only gained and hovered", ArithmeticException.class, () -> {
            DroneCorridors y = line();
            y.addDrone(0, 50);
            y.advance(5);
            return (long) y.flyingShare();
        });
        Checks.isTrue("only hovered", x.flyingShare() == 0.0);
        x.plan(0, 2);
        x.plan(1, 2);
        Checks.same("before the start", x.account(1, 4), 0);
        x.advance(1);
        Checks.same("the lowest of the busiest", x.busiest(), 0);
        x.advance(5);
        int[][] want = {{10, 0, 0, 6, 2}, {10, 1, 0, 6, 2}, {0, 0, 7, 0, 0}};
        for (int drone = 0; drone < 3; drone++) {
            for (int account = 0; account < 5; account++) {
                Checks.same("account(" + drone + ", " + account + ")", x.account(drone, account),
                        want[drone][account]);
            }
        }
        Checks.isTrue("flyingShare", x.flyingShare() == 20.0 / 28.0);
        Checks.same("audit", x.audit(), 0);
        x.plan(1, 1);
        x.advance(1);
        Checks.same("busiest", x.busiest(), 1);
        Checks.noIndex("account(3, 5)", () -> x.account(3, 5));
        Checks.noIndex("account(-1, 0)", () -> x.account(-1, 0));
        Checks.noArgument("account(0, 5)", () -> x.account(0, 5));
        Checks.noArgument("account(0, -1)", () -> x.account(0, -1));
    }
}
