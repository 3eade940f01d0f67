/** The sentences of promises 27 to 34, and of ticks and accounts, that name an edge, one function each. */
public final class EdgesOfTicksTest {
    private static final int LEAST = Integer.MIN_VALUE;
    private static final int MOST = Integer.MAX_VALUE;

    public static void main(String[] arguments) {
        ticksFromOneToForty();
        timeUpToTenThousand();
        legsStartAndEnd();
        chargingUpToTwoHundred();
        noChargeInATickOfAStart();
        noChargeInTheTickOfTheLanding();
        hoveringTakesOne();
        hoveringWithNothing();
        lostDronesLoseTheirLegs();
        legThatTakesAllThereIs();
        landedDroneWithTooLittleEnergy();
        hoveringDroneWithTooLittleEnergy();
        changeOfLayersWithTooLittleEnergy();
        chargedDroneStartsAllTheSame();
        landsWithoutAFurtherLegAtItsDestination();
        landingsAreCounted();
        landsOnLayerZero();
        placeFromNowToForty();
        placeAtTheStartAndTheEnd();
        placeOfALostDrone();
        placeOfADroneThatWillBeLost();
        placeOfADroneThatWillNotStart();
        pairsOfLegs();
        pairsOfDifferentDrones();
        pairsOfOppositeLegs();
        usesOfLayers();
        accountsFromZeroToFour();
        accountsAddUp();
        shareOfFlying();
        busiestOfSeveral();
        Checks.end();
    }

    private static void ticksFromOneToForty() {
        DroneCorridors x = Build.nodes("p");
        int[] wrong = {LEAST, -40, -1, 0, 41, 10000, 10001, MOST};
        for (int ticks : wrong) {
            Checks.noArgument("advance(" + ticks + ")", () -> x.advance(ticks));
        }
        Checks.same("no tick has passed", x.count(4), 0);
        int due = 0;
        for (int ticks = 1; ticks <= 40; ticks++) {
            Checks.same("advance", x.advance(ticks), 0);
            due += ticks;
            Checks.same("the time", x.count(4), due);
        }
    }

    private static void timeUpToTenThousand() {
        for (int left = 1; left <= 40; left += 13) {
            DroneCorridors x = Build.nodes("p");
            x.addDrone(0, 1);
            Build.passTo(x, 10000 - left);
            int more = left + 1;
            if (more <= 40) {
                Checks.noState("beyond the end of time", () -> x.advance(more));
            }
            Checks.noArgument("41 ticks at the end of time", () -> x.advance(41));
            Checks.same("the time stays", x.count(4), 10000 - left);
            Checks.same("up to the end of time", x.advance(left), 0);
            Checks.same("the time is 10000", x.count(4), 10000);
            Checks.noState("one more", () -> x.advance(1));
            Checks.noState("40 more", () -> x.advance(40));
            Checks.noArgument("0 more", () -> x.advance(0));
            Checks.noArgument("the greatest number", () -> x.advance(MOST));
            x.undo();
            Checks.same("undone", x.count(4), 10000 - left);
        }
    }

    private static void legsStartAndEnd() {
        for (int length = 1; length <= 9; length++) {
            DroneCorridors x = Build.chain("pn", length);
            x.addDrone(0, 100);
            x.addFence(0, 7, 0, 3);
            x.plan(0, 1);
            for (int time = 0; time <= length + 5; time++) {
                int state = time <= 3 ? 0 : time < length + 3 ? 2 : 1;
                Checks.same("length " + length + ", time " + time, x.drone(0, 0), state);
                Checks.same("started", x.account(0, 4), time <= 3 ? 0 : 1);
                x.advance(1);
            }
        }
    }

    private static void chargingUpToTwoHundred() {
        for (int energy = 190; energy <= 200; energy++) {
            DroneCorridors x = Build.nodes("p");
            x.addDrone(0, energy);
            for (int tick = 1; tick <= 5; tick++) {
                x.advance(1);
                int due = Math.min(200, energy + 3 * tick);
                Checks.same("charged from " + energy, x.drone(0, 1), due);
                Checks.same("what it really gained", x.account(0, 3), due - energy);
            }
            Checks.same("the accounts add up", x.audit(), 0);
        }
    }

    private static void noChargeInATickOfAStart() {
        DroneCorridors x = Build.chain("pp", 1);
        x.addDrone(0, 50);
        x.addFence(0, 7, 0, 2);
        x.plan(0, 1);
        x.advance(2);
        Build.droneIs("before its start", x, 0, 0, 56);
        Checks.same("it starts and lands in a tick", x.advance(1), 1);
        Build.droneIs("no charge in that tick", x, 0, 0, 54, 0, 1);
        x.advance(1);
        Build.droneIs("but in the next one", x, 0, 0, 57, 0, 1);
    }

    private static void noChargeInTheTickOfTheLanding() {
        DroneCorridors x = Build.chain("np", 3);
        x.addDrone(0, 50);
        x.plan(0, 1);
        x.advance(3);
        Build.accountsAre("it has just landed", x, 0, 6, 0, 0, 0, 1);
        x.advance(1);
        Build.accountsAre("a tick later", x, 0, 6, 0, 0, 3, 1);
    }

    private static void hoveringTakesOne() {
        DroneCorridors x = Build.chain("pn", 2);
        x.addDrone(1, 3);
        for (int tick = 1; tick <= 2; tick++) {
            x.advance(1);
            Build.droneIs("hovering", x, 0, 1, 3 - tick);
        }
        x.advance(1);
        Build.droneIs("none left then", x, 0, 3, 0);
        Build.accountsAre("lost", x, 0, 0, 0, 3, 0, 0);
        x.advance(40);
        Build.accountsAre("a lost one loses none", x, 0, 0, 0, 3, 0, 0);
        DroneCorridors y = Build.chain("pn", 2);
        y.addDrone(1, 40);
        y.addDrone(1, 41);
        y.advance(40);
        Checks.same("40 of 40", y.drone(0, 0), 3);
        Checks.same("40 of 41", y.drone(1, 0), 1);
    }

    /** A drone that hovers in a tick and had no energy at its beginning is lost at its end, and loses none. */
    private static void hoveringWithNothing() {
        DroneCorridors x = Build.chain("pn", 2);
        x.addDrone(0, 8);
        x.plan(0, 1);
        x.drain(0, 4);
        x.advance(2);
        Build.droneIs("it hovers with 0", x, 0, 1, 0, 0, 1, 1, 0, 2);
        Checks.same("and is low", x.low(), 1);
        x.advance(1);
        Build.droneIs("it is lost", x, 0, 3, 0, 0, 1, 1, 0, 3);
        Build.accountsAre("it lost none", x, 0, 4, 0, 0, 0, 1);
        Checks.same("the accounts add up", x.audit(), 0);
    }

    private static void lostDronesLoseTheirLegs() {
        DroneCorridors x = Build.chain("np", 2);
        x.addDrone(0, 9);
        x.addFence(0, 7, 0, 5);
        x.plan(0, 1);
        Checks.same("a leg", x.uses(0, -1), 1);
        x.drain(0, 6);
        x.advance(3);
        Build.droneIs("lost before its start", x, 0, 3, 0, 0, 0, 1, 0, 3);
        Checks.same("no leg", x.uses(0, -1), 0);
        Checks.same("struck by nothing", x.addFence(0, 7, 0, 100), 0);
        x.advance(2);
        Build.droneIs("it does not start", x, 0, 3, 0, 0, 0, 1, 0, 5);
    }

    private static void legThatTakesAllThereIs() {
        DroneCorridors x = Build.chain("np", 3);
        x.addDrone(0, 10);
        Build.close(x, 0, 3);
        x.plan(0, 1);
        x.drain(0, 2);
        x.advance(1);
        Build.droneIs("6 for the leg and 2 for the change of 8", x, 0, 2, 0, 2, 1, 1, 1, 3);
        x.advance(2);
        Build.droneIs("it lands with 0", x, 0, 0, 0, 0, 1, 1, 0, 3);
    }

    private static void landedDroneWithTooLittleEnergy() {
        DroneCorridors x = Build.chain("pnp", 3, 2);
        x.addDrone(0, 50);
        x.plan(0, 2);
        x.drain(0, 45);
        x.advance(1);
        Build.droneIs("it stays landed and gains", x, 0, 0, 8, 0, 0, -1, 0, 1);
        Build.accountsAre("nothing was taken", x, 0, 0, 0, 0, 3, 0);
        x.advance(1);
        Build.droneIs("its leg does not start later", x, 0, 0, 11, 0, 0, -1, 0, 2);
    }

    private static void hoveringDroneWithTooLittleEnergy() {
        DroneCorridors x = Build.chain("nnp", 3, 2);
        x.addDrone(0, 50);
        x.plan(0, 2);
        x.drain(0, 45);
        x.advance(1);
        Build.droneIs("it hovers in this tick", x, 0, 1, 4, 0, 0, -1, 0, 1);
        Build.accountsAre("for 1", x, 0, 0, 0, 1, 0, 0);
        DroneCorridors y = Build.chain("nnp", 3, 2);
        y.addDrone(0, 50);
        y.plan(0, 2);
        y.drain(0, 49);
        y.advance(1);
        Build.droneIs("or is lost by it, without a destination", y, 0, 3, 0, 0, 0, -1, 0, 1);
    }

    private static void changeOfLayersWithTooLittleEnergy() {
        for (int left = 6; left <= 8; left++) {
            DroneCorridors x = Build.chain("np", 3);
            x.addDrone(0, 50);
            Build.close(x, 0, 3);
            x.plan(0, 1);
            x.drain(0, 50 - left);
            x.advance(1);
            Checks.same("with " + left, x.drone(0, 0), left == 8 ? 2 : 1);
            Checks.same("its layer", x.drone(0, 2), left == 8 ? 2 : 0);
            Checks.same("its change", x.account(0, 1), left == 8 ? 2 : 0);
        }
    }

    private static void chargedDroneStartsAllTheSame() {
        DroneCorridors x = Build.chain("pp", 3);
        x.addDrone(0, 6);
        x.addFence(0, 7, 0, 2);
        x.plan(0, 1);
        x.drain(0, 6);
        x.advance(2);
        x.drain(0, 1);
        x.advance(1);
        Build.droneIs("with 5 at its start", x, 0, 0, 8, 0, 0, -1, 0, 3);
        x.undo();
        x.undo();
        x.advance(1);
        Build.droneIs("with 6 at its start", x, 0, 2, 0, 0, 1, 1, 1, 5);
    }

    private static void landsWithoutAFurtherLegAtItsDestination() {
        DroneCorridors x = Build.chain("npnp", 2, 2, 2);
        x.addDrone(0, 100);
        x.plan(0, 3);
        Checks.same("not at a pad with a further leg", x.advance(2), 0);
        Checks.same("there it hovers", x.drone(0, 0), 1);
        Checks.same("not at a node that is no pad", x.advance(2), 0);
        Checks.same("but at its destination", x.advance(2), 1);
        DroneCorridors y = Build.chain("npn", 2, 2);
        y.addDrone(0, 100);
        y.plan(0, 2);
        Checks.same("not at a destination that is no pad", y.advance(4), 0);
        Checks.same("there it hovers", y.drone(0, 0), 1);
        y.plan(0, 0);
        y.drain(0, 86);
        y.advance(2);
        Build.droneIs("at a pad on its way", y, 0, 1, 2, 0, 1, 0, 1, 8);
        Checks.same("its further leg does not start", y.advance(1), 0);
        Build.droneIs("it hovers there without a destination", y, 0, 1, 1, 0, 1, -1, 0, 7);
    }

    private static void landingsAreCounted() {
        DroneCorridors x = Build.chain("np", 2);
        for (int i = 0; i < 6; i++) {
            x.addDrone(0, 100);
            x.plan(i, 1);
        }
        Checks.same("none in the first tick", x.advance(1), 0);
        Checks.same("three on three layers", x.advance(1), 3);
        Checks.same("three more 2 later", x.advance(40), 3);
        Checks.same("landed ones do not land", x.advance(40), 0);
        x.undo();
        x.undo();
        x.undo();
        x.undo();
        Checks.same("all six at once", x.advance(4), 6);
    }

    private static void landsOnLayerZero() {
        DroneCorridors x = Build.chain("np", 2);
        x.addDrone(0, 100);
        Build.close(x, 0, 3);
        x.plan(0, 1);
        x.advance(1);
        Checks.same("flying on layer 2", x.drone(0, 2), 2);
        x.advance(1);
        Build.droneIs("landed on layer 0", x, 0, 0, 94, 0, 1);
        Build.accountsAre("the way down takes none", x, 0, 4, 2, 0, 0, 1);
    }

    private static void placeFromNowToForty() {
        DroneCorridors x = Build.chain("pn", 2);
        x.addDrone(0, 100);
        int[] wrong = {LEAST, -1, 41, MOST};
        for (int ticks : wrong) {
            Checks.noArgument("placeAfter(0, " + ticks + ")", () -> x.placeAfter(0, ticks));
            Checks.noIndex("placeAfter(1, " + ticks + ")", () -> x.placeAfter(1, ticks));
        }
        Checks.noIndex("placeAfter(-1, 0)", () -> x.placeAfter(-1, 0));
        for (int ticks = 0; ticks <= 40; ticks++) {
            Checks.same("placeAfter", x.placeAfter(0, ticks), 0);
        }
        Checks.same("no tick has passed", x.count(4), 0);
    }

    private static void placeAtTheStartAndTheEnd() {
        DroneCorridors x = Build.nodes("pnn");
        x.addCorridor(1, 0, 3, 0);
        for (int i = 1; i < 15; i++) {
            x.addCorridor(0, 2, 9, 0);
        }
        x.addCorridor(1, 2, 3, 0);
        x.addDrone(0, 100);
        x.addFence(0, 7, 0, 2);
        x.plan(0, 2);
        int[] want = {0, 0, 0, 100, 100, 1, 115, 115, 2, 2};
        for (int now = 0; now < want.length; now++) {
            for (int ticks = 0; now + ticks < want.length; ticks++) {
                Checks.same("placeAfter(0, " + ticks + ") at " + now, x.placeAfter(0, ticks), want[now + ticks]);
            }
            x.advance(1);
        }
    }

    private static void placeOfALostDrone() {
        DroneCorridors x = Build.chain("pn", 2);
        x.addDrone(1, 1);
        x.advance(1);
        for (int ticks = 0; ticks <= 40; ticks += 20) {
            Checks.same("a lost one", x.placeAfter(0, ticks), 1);
        }
    }

    /** A drone that will be lost is at the node at which it is lost then. */
    private static void placeOfADroneThatWillBeLost() {
        DroneCorridors x = Build.chain("pnp", 3, 2);
        x.addDrone(0, 100);
        x.addFence(0, 7, 3, 100);
        x.addFence(1, 7, 0, 9);
        x.plan(0, 2);
        x.advance(1);
        x.drain(0, 91);
        Checks.same("3 in flight", x.drone(0, 1), 3);
        int[] want = {100, 100, 1, 1, 1, 1, 1, 1, 1, 1};
        for (int ticks = 0; ticks < want.length; ticks++) {
            Checks.same("placeAfter " + ticks, x.placeAfter(0, ticks), want[ticks]);
        }
        x.advance(9);
        Checks.same("it is lost", x.drone(0, 0), 3);
        Checks.same("there", x.placeAfter(0, 0), 1);
    }

    private static void placeOfADroneThatWillNotStart() {
        DroneCorridors x = Build.chain("pn", 3);
        x.addDrone(0, 50);
        x.plan(0, 1);
        x.drain(0, 45);
        for (int ticks = 0; ticks <= 40; ticks++) {
            Checks.same("it will stay", x.placeAfter(0, ticks), 0);
        }
        x.setWind(0, 1);
        Checks.same("with the wind it will start", x.placeAfter(0, 1), 100);
        Checks.same("and arrive", x.placeAfter(0, 3), 1);
    }

    private static void pairsOfLegs() {
        DroneCorridors x = Build.chain("pn", 2);
        Build.close(x, 0, 6);
        Checks.same("no drones", x.pairs(true) + x.pairs(false), 0);
        int[] want = {0, 1, 3, 6, 10, 15};
        for (int i = 0; i < 6; i++) {
            x.addDrone(0, 100);
            x.plan(i, 1);
            Checks.same("pairs of " + (i + 1) + " legs", x.pairs(true), want[i]);
            Checks.same("not separated", x.pairs(false), 0);
        }
        x.advance(1);
        Checks.same("with one that flies", x.pairs(true), 15);
        x.advance(1);
        Checks.same("without one that has ended", x.pairs(true), 10);
        x.cancel(3);
        Checks.same("without one that is canceled", x.pairs(true), 6);
        x.advance(40);
        Checks.same("none is left", x.pairs(true), 0);
    }

    private static void pairsOfDifferentDrones() {
        DroneCorridors x = Build.nodes("nnnp");
        x.addCorridor(1, 2, 1, 1);
        x.addCorridor(2, 1, 1, 1);
        x.addCorridor(0, 2, 1, 1);
        x.addCorridor(2, 3, 1, 1);
        x.addDrone(0, 100);
        x.addFence(3, 7, 0, 9);
        x.plan(0, 3);
        Checks.same("it flies there four times", x.uses(0, 0), 4);
        Checks.same("but makes no pairs with itself", x.pairs(true) + x.pairs(false), 0);
        x.addDrone(1, 100);
        x.plan(1, 2);
        Checks.same("another drone on the same layer", x.leg(1, 0, 2) * 10 + x.leg(1, 0, 0), 0);
        Checks.same("makes four pairs", x.pairs(true), 4);
    }

    private static void pairsOfOppositeLegs() {
        DroneCorridors x = Build.chain("pp", 1);
        Build.close(x, 0, 6);
        x.addDrone(0, 100);
        x.addDrone(1, 100);
        x.plan(0, 1);
        x.plan(1, 0);
        Checks.same("one ends at the start of the other", x.leg(0, 0, 4) * 10 + x.leg(1, 0, 3), 11);
        Checks.same("so they are separated", x.pairs(true) * 10 + x.pairs(false), 10);
    }

    private static void usesOfLayers() {
        DroneCorridors x = Build.chain("pn", 2);
        for (int i = 0; i < 5; i++) {
            x.addDrone(0, 100);
            x.plan(i, 1);
        }
        int[] want = {5, 2, 2, 1};
        for (int layer = -1; layer < 3; layer++) {
            Checks.same("uses(0, " + layer + ")", x.uses(0, layer), want[layer + 1]);
        }
        int[] wrong = {LEAST, -2, 3, MOST};
        for (int layer : wrong) {
            Checks.noArgument("uses(0, " + layer + ")", () -> x.uses(0, layer));
            Checks.noIndex("uses(1, " + layer + ")", () -> x.uses(1, layer));
        }
        Checks.noIndex("uses(-1, 0)", () -> x.uses(-1, 0));
        x.advance(2);
        Checks.same("without those that have ended", x.uses(0, -1), 2);
    }

    private static void accountsFromZeroToFour() {
        DroneCorridors x = Build.chain("pnp", 3, 2);
        x.addDrone(0, 100);
        Build.close(x, 0, 1);
        x.addFence(0, 6, 5, 100);
        x.addFence(0, 7, 0, 2);
        x.addFence(1, 7, 0, 9);
        x.plan(0, 2);
        x.advance(14);
        Build.accountsAre("after 14 ticks", x, 0, 6 + 4, 1, 4, 3 * 2 + 3 * 3, 2);
        int[] wrong = {LEAST, -1, 5, MOST};
        for (int account : wrong) {
            Checks.noArgument("account(0, " + account + ")", () -> x.account(0, account));
            Checks.noIndex("account(1, " + account + ")", () -> x.account(1, account));
        }
        Checks.noIndex("account(-1, 0)", () -> x.account(-1, 0));
    }

    private static void accountsAddUp() {
        DroneCorridors x = Build.chain("pnp", 3, 2);
        for (int i = 0; i < 6; i++) {
            x.addDrone(i % 3, 20 + 30 * i);
        }
        x.plan(0, 1);
        x.plan(1, 2);
        x.plan(2, 1);
        x.drain(3, 5);
        x.drain(4, 200);
        x.drain(5, 1);
        for (int tick = 0; tick < 60; tick++) {
            x.advance(1);
            Checks.same("audit", x.audit(), 0);
            for (int i = 0; i < 6; i++) {
                int drained = i == 3 ? 5 : i == 4 ? 140 : i == 5 ? 1 : 0;
                int taken = x.account(i, 0) + x.account(i, 1) + x.account(i, 2) + drained;
                Checks.same("the energy", x.drone(i, 1), 20 + 30 * i + x.account(i, 3) - taken);
            }
        }
    }

    private static void shareOfFlying() {
        DroneCorridors x = Build.chain("pn", 3);
        Checks.refuses("no drone", ArithmeticException.class, () -> (long) x.flyingShare());
        x.addDrone(0, 50);
        x.drain(0, 5);
        x.advance(1);
        Checks.refuses("only charged and drained", ArithmeticException.class, () -> (long) x.flyingShare());
        x.plan(0, 1);
        x.advance(1);
        Checks.isTrue("only legs", x.flyingShare() == 1.0);
        x.advance(2);
        x.advance(1);
        Checks.isTrue("legs and hovering", x.flyingShare() == 6.0 / 7.0);
        x.addDrone(1, 50);
        x.advance(2);
        Checks.isTrue("of all drones", x.flyingShare() == 6.0 / 11.0);
        Build.close(x, 0, 3);
        x.plan(0, 0);
        x.advance(1);
        Checks.isTrue("changes of layers, too", x.flyingShare() == 12.0 / 20.0);
        DroneCorridors y = Build.chain("pn", 3);
        y.addDrone(1, 1);
        y.advance(1);
        Checks.isTrue("only hovering", y.flyingShare() == 0.0);
    }

    private static void busiestOfSeveral() {
        DroneCorridors x = Build.chain("pn", 1);
        Checks.noElement("no drone", x::busiest);
        for (int i = 0; i < 6; i++) {
            x.addDrone(0, 100);
        }
        x.plan(5, 1);
        Checks.noElement("no leg was started", x::busiest);
        x.advance(1);
        Checks.same("the only one", x.busiest(), 5);
        x.plan(3, 1);
        x.advance(1);
        Checks.same("the lowest of two", x.busiest(), 3);
        x.plan(5, 0);
        x.advance(1);
        Checks.same("the one with the most", x.busiest(), 5);
        x.undo();
        Checks.same("undone", x.busiest(), 3);
    }
}
