/** The sentences of promises 14, 15, 20, 21 and 25 that name an edge, one function each. */
public final class EdgesOfDronesTest {
    private static final int LEAST = Integer.MIN_VALUE;
    private static final int MOST = Integer.MAX_VALUE;

    public static void main(String[] arguments) {
        atMostSixDrones();
        energiesFromOneToTwoHundred();
        addedDrone();
        numbersOfALandedDrone();
        numbersOfAHoveringDrone();
        numbersOfAFlyingDrone();
        numbersOfALostDrone();
        cancelOfALandedDrone();
        cancelOfAHoveringDrone();
        cancelOfAFlyingDrone();
        cancelOfALostDrone();
        canceledDroneLandsAtAPad();
        drainFromOneToTwoHundred();
        drainOfALandedDrone();
        drainOfAHoveringDrone();
        drainOfAFlyingDrone();
        drainOfAFlyingDroneWithNothing();
        drainOfALostDrone();
        drainRemovesTheLegs();
        lowIsLessThanTheReserve();
        lowWithoutAReserve();
        lowOfHoveringDronesAlone();
        Checks.end();
    }

    private static void atMostSixDrones() {
        DroneCorridors x = Build.chain("pn", 2);
        for (int i = 0; i < 6; i++) {
            Checks.same("addDrone", x.addDrone(i % 2, 1 + i), i);
        }
        Checks.noState("the seventh drone", () -> x.addDrone(0, 1));
        Checks.noArgument("the seventh drone without energy", () -> x.addDrone(0, 0));
        Checks.noIndex("the seventh drone nowhere, without energy", () -> x.addDrone(2, 0));
        Checks.same("six drones", x.count(2), 6);
        Checks.same("the sixth one", x.drone(5, 1), 6);
        Checks.noIndex("drone 6", () -> x.drone(6, 0));
        Checks.noIndex("cancel(6)", () -> x.cancel(6));
        x.undo();
        Checks.same("the sixth one again", x.addDrone(0, 77), 5);
        Checks.same("its energy", x.drone(5, 1), 77);
        x.advance(40);
        Checks.same("the hovering ones are lost", x.count(8), 2);
        Checks.noState("lost drones count, too", () -> x.addDrone(0, 1));
    }

    private static void energiesFromOneToTwoHundred() {
        DroneCorridors x = Build.chain("pn", 2);
        int[] wrong = {LEAST, -200, -1, 0, 201, 1000, MOST};
        for (int energy : wrong) {
            Checks.noArgument("addDrone with " + energy, () -> x.addDrone(0, energy));
            Checks.noIndex("addDrone nowhere with " + energy, () -> x.addDrone(2, energy));
        }
        int[] nowhere = {LEAST, -1, 2, 10, MOST};
        for (int node : nowhere) {
            Checks.noIndex("addDrone at " + node, () -> x.addDrone(node, 1));
        }
        Checks.same("no drone", x.count(2), 0);
        Checks.same("with 1", x.addDrone(0, 1), 0);
        Checks.same("with 200", x.addDrone(1, 200), 1);
        Checks.same("the least energy", x.drone(0, 1), 1);
        Checks.same("the greatest energy", x.drone(1, 1), 200);
    }

    private static void addedDrone() {
        DroneCorridors x = Build.nodes("pnnnnnnnnp");
        x.advance(7);
        x.addDrone(0, 5);
        x.addDrone(8, 6);
        x.addDrone(9, 7);
        Build.droneIs("at a pad", x, 0, 0, 5, 0, 0, -1, 0, 7);
        Build.droneIs("at a node", x, 1, 1, 6, 0, 8, -1, 0, 7);
        Build.droneIs("at the last node, a pad", x, 2, 0, 7, 0, 9, -1, 0, 7);
        for (int drone = 0; drone < 3; drone++) {
            Build.accountsAre("added", x, drone, 0, 0, 0, 0, 0);
        }
        Checks.noArgument("drone(0, -1)", () -> x.drone(0, -1));
        Checks.noArgument("drone(0, 7)", () -> x.drone(0, 7));
        Checks.noArgument("drone(0, least)", () -> x.drone(0, LEAST));
        Checks.noIndex("drone(3, 7)", () -> x.drone(3, 7));
        Checks.noIndex("drone(-1, 0)", () -> x.drone(-1, 0));
        Checks.noIndex("drone(greatest, 0)", () -> x.drone(MOST, 0));
    }

    private static void numbersOfALandedDrone() {
        DroneCorridors x = Build.chain("pnp", 3, 2);
        x.addDrone(0, 100);
        x.addFence(0, 7, 0, 2);
        x.plan(0, 2);
        Build.droneIs("planned", x, 0, 0, 100, 0, 0, 2, 2, 7);
        x.advance(2);
        Build.droneIs("landed until its start", x, 0, 0, 106, 0, 0, 2, 2, 7);
        x.advance(5);
        Build.droneIs("landed at its destination", x, 0, 0, 96, 0, 2, 2, 0, 7);
        x.advance(3);
        Build.droneIs("the present time without legs", x, 0, 0, 105, 0, 2, 2, 0, 10);
    }

    private static void numbersOfAHoveringDrone() {
        DroneCorridors x = Build.chain("npn", 3, 2);
        x.addDrone(0, 100);
        Build.close(x, 0, 1);
        Build.close(x, 1, 3);
        x.addFence(0, 6, 3, 100);
        x.addFence(1, 7, 0, 5);
        x.plan(0, 2);
        Build.droneIs("planned", x, 0, 1, 100, 0, 0, 2, 2, 7);
        x.advance(3);
        Build.droneIs("it hovers at a pad on its way", x, 0, 1, 93, 1, 1, 2, 1, 7);
        x.advance(2);
        Build.droneIs("hovering takes 1 for a tick", x, 0, 1, 91, 1, 1, 2, 1, 7);
        x.advance(2);
        Build.droneIs("at a node that is no pad", x, 0, 1, 86, 2, 2, 2, 0, 7);
        x.advance(1);
        Build.droneIs("hovering on", x, 0, 1, 85, 2, 2, 2, 0, 8);
    }

    private static void numbersOfAFlyingDrone() {
        DroneCorridors x = Build.chain("pnp", 3, 2);
        x.addDrone(0, 100);
        Build.close(x, 0, 3);
        x.plan(0, 2);
        x.advance(1);
        Build.droneIs("the node at which its leg ends", x, 0, 2, 92, 2, 1, 2, 2, 5);
        x.advance(1);
        Build.droneIs("still flying", x, 0, 2, 92, 2, 1, 2, 2, 5);
        x.advance(1);
        Checks.same("its leg has ended", x.drone(0, 0), 1);
        x.advance(1);
        Checks.same("the last leg has not ended", x.drone(0, 5), 1);
        Checks.same("the end of the plan", x.drone(0, 6), 5);
        Checks.same("the node at which the last leg ends", x.drone(0, 3), 2);
    }

    private static void numbersOfALostDrone() {
        DroneCorridors x = Build.chain("pnp", 2, 2);
        x.addDrone(0, 60);
        Build.close(x, 0, 3);
        x.plan(0, 1);
        x.advance(2);
        Checks.same("down to 1", x.drain(0, 53), 1);
        x.advance(1);
        Build.droneIs("lost", x, 0, 3, 0, 2, 1, 1, 0, 3);
        x.advance(5);
        Build.droneIs("lost for 5 ticks", x, 0, 3, 0, 2, 1, 1, 0, 8);
        Checks.noIndex("no leg of a lost one", () -> x.leg(0, 0, 0));
    }

    private static void cancelOfALandedDrone() {
        DroneCorridors x = Build.chain("pnp", 2, 2);
        x.addDrone(0, 60);
        Checks.same("cancel of nothing", x.cancel(0), 0);
        x.plan(0, 0);
        Checks.same("cancel of a plan without legs", x.cancel(0), 0);
        Checks.same("its destination is gone", x.drone(0, 4), -1);
        x.plan(0, 2);
        Checks.same("cancel of two legs", x.cancel(0), 2);
        Build.droneIs("canceled", x, 0, 0, 60, 0, 0, -1, 0, 0);
        x.advance(1);
        Build.droneIs("it does not start", x, 0, 0, 63, 0, 0, -1, 0, 1);
        Checks.noIndex("cancel(-1)", () -> x.cancel(-1));
        Checks.noIndex("cancel(1)", () -> x.cancel(1));
        Checks.noIndex("cancel(least)", () -> x.cancel(LEAST));
    }

    private static void cancelOfAHoveringDrone() {
        DroneCorridors x = Build.chain("nnp", 2, 2);
        x.addDrone(0, 60);
        x.plan(0, 2);
        x.advance(2);
        Checks.same("cancel of the second leg", x.cancel(0), 1);
        Build.droneIs("canceled between legs", x, 0, 1, 56, 0, 1, -1, 0, 2);
        x.advance(1);
        Build.droneIs("it hovers", x, 0, 1, 55, 0, 1, -1, 0, 3);
    }

    private static void cancelOfAFlyingDrone() {
        DroneCorridors x = Build.chain("pnp", 3, 2);
        x.addDrone(0, 60);
        x.plan(0, 2);
        x.advance(1);
        Checks.same("the leg in which it flies stays", x.cancel(0), 1);
        Build.droneIs("canceled in flight", x, 0, 2, 54, 0, 1, 1, 1, 3);
        Build.legIs("its leg", x, 0, 0, 0, 0, 0, 0, 3);
        Checks.same("cancel again", x.cancel(0), 0);
        Checks.same("the end of its leg stays the destination", x.drone(0, 4), 1);
        x.advance(2);
        Build.droneIs("at a node that is no pad it hovers", x, 0, 1, 54, 0, 1, 1, 0, 3);
    }

    private static void cancelOfALostDrone() {
        DroneCorridors x = Build.chain("pn", 2);
        x.addDrone(1, 9);
        x.plan(0, 1);
        x.drain(0, 9);
        Checks.same("the destination of a lost one", x.drone(0, 4), 1);
        Checks.same("cancel of a lost one", x.cancel(0), 0);
        Build.droneIs("lost and canceled", x, 0, 3, 0, 0, 1, -1, 0, 0);
    }

    private static void canceledDroneLandsAtAPad() {
        DroneCorridors x = Build.chain("npn", 2, 2);
        x.addDrone(0, 60);
        x.plan(0, 2);
        x.advance(1);
        x.cancel(0);
        Checks.same("it lands", x.advance(1), 1);
        Build.droneIs("landed", x, 0, 0, 56, 0, 1, 1, 0, 2);
        Build.accountsAre("no gain in the tick in which it lands", x, 0, 4, 0, 0, 0, 1);
    }

    private static void drainFromOneToTwoHundred() {
        DroneCorridors x = Build.chain("pn", 2);
        x.addDrone(0, 200);
        int[] wrong = {LEAST, -1, 0, 201, MOST};
        for (int energy : wrong) {
            Checks.noArgument("drain of " + energy, () -> x.drain(0, energy));
            Checks.noIndex("drain of no drone", () -> x.drain(1, energy));
        }
        Checks.noIndex("drain of drone -1", () -> x.drain(-1, 1));
        Checks.noIndex("drain of drone least", () -> x.drain(LEAST, 1));
        Checks.same("no drain", x.drone(0, 1), 200);
        Checks.same("drain of 1", x.drain(0, 1), 199);
        Checks.same("drain of 200 takes what there is", x.drain(0, 200), 0);
    }

    private static void drainOfALandedDrone() {
        DroneCorridors x = Build.chain("pn", 2);
        x.addDrone(0, 10);
        Checks.same("all of it", x.drain(0, 10), 0);
        Checks.same("a landed one is not lost", x.drone(0, 0), 0);
        Checks.same("drain of nothing", x.drain(0, 1), 0);
        Checks.same("still landed", x.drone(0, 0), 0);
        x.advance(1);
        Checks.same("it gains", x.drone(0, 1), 3);
        Checks.same("the accounts add up", x.audit(), 0);
    }

    private static void drainOfAHoveringDrone() {
        DroneCorridors x = Build.chain("pn", 2);
        x.addDrone(1, 10);
        x.addDrone(1, 10);
        Checks.same("down to 1", x.drain(0, 9), 1);
        Checks.same("not lost with 1", x.drone(0, 0), 1);
        Checks.same("down to 0", x.drain(0, 1), 0);
        Checks.same("lost with 0", x.drone(0, 0), 3);
        Checks.same("more than there is", x.drain(1, 11), 0);
        Checks.same("lost as well", x.drone(1, 0), 3);
        Checks.same("the accounts add up", x.audit(), 0);
        Build.accountsAre("a drain is in no account", x, 1, 0, 0, 0, 0, 0);
    }

    private static void drainOfAFlyingDrone() {
        DroneCorridors x = Build.chain("pn", 3);
        x.addDrone(0, 20);
        x.plan(0, 1);
        x.advance(1);
        Checks.same("14 in flight", x.drone(0, 1), 14);
        Checks.same("down to 2", x.drain(0, 12), 2);
        Checks.same("down to 1", x.drain(0, 1), 1);
        Checks.same("no less than 1", x.drain(0, 1), 1);
        Checks.same("no less than 1 by all", x.drain(0, 200), 1);
        Checks.same("still flying", x.drone(0, 0), 2);
        Checks.same("the accounts add up", x.audit(), 0);
        DroneCorridors y = Build.chain("pn", 3);
        y.addDrone(0, 20);
        y.plan(0, 1);
        y.advance(1);
        Checks.same("all at once", y.drain(0, 14), 1);
        Checks.same("the accounts add up", y.audit(), 0);
    }

    private static void drainOfAFlyingDroneWithNothing() {
        DroneCorridors x = Build.chain("np", 3);
        x.addDrone(0, 6);
        x.plan(0, 1);
        x.advance(1);
        Checks.same("nothing left in flight", x.drone(0, 1), 0);
        Checks.same("it has 0 already", x.drain(0, 1), 0);
        Checks.same("it still flies", x.drone(0, 0), 2);
        Checks.same("it lands with 0", x.advance(2), 1);
        Build.droneIs("landed with 0", x, 0, 0, 0, 0, 1, 1, 0, 3);
        Checks.same("the accounts add up", x.audit(), 0);
    }

    private static void drainOfALostDrone() {
        DroneCorridors x = Build.chain("pn", 2);
        x.addDrone(1, 1);
        x.advance(1);
        Checks.noState("a lost one", () -> x.drain(0, 1));
        Checks.noState("a lost one of all", () -> x.drain(0, 200));
        Checks.noArgument("a lost one of nothing", () -> x.drain(0, 0));
        Checks.noArgument("a lost one of too much", () -> x.drain(0, 201));
    }

    private static void drainRemovesTheLegs() {
        DroneCorridors x = Build.chain("nnp", 2, 2);
        x.addDrone(0, 60);
        x.plan(0, 2);
        x.advance(2);
        Checks.same("a leg that has not started", x.uses(1, -1), 1);
        x.drain(0, 60);
        Build.droneIs("lost between legs", x, 0, 3, 0, 0, 1, 2, 0, 2);
        Checks.same("its leg is removed", x.uses(1, -1), 0);
        x.addDrone(1, 60);
        Checks.same("and bars nobody", x.plan(1, 2), 4);
        Build.legIs("on the same layer", x, 1, 0, 1, 0, 0, 2, 4);
    }

    private static void lowIsLessThanTheReserve() {
        for (int energy = 3; energy <= 6; energy++) {
            DroneCorridors x = Build.chain("pn", 2);
            x.setWind(0, -1);
            x.addDrone(1, energy);
            Checks.same("energy " + energy + " against the reserve 3", x.low(), 0);
            x.setWind(0, 1);
            Checks.same("energy " + energy + " against the reserve 5", x.low(), energy < 5 ? 1 : 0);
        }
        DroneCorridors y = Build.chain("pn", 2);
        for (int i = 0; i < 6; i++) {
            y.addDrone(1, i + 1);
        }
        Checks.same("as a set", y.low(), 0b000111);
    }

    private static void lowWithoutAReserve() {
        DroneCorridors x = Build.chain("nn", 2);
        x.addDrone(0, 200);
        x.addDrone(1, 1);
        Checks.same("where there is no reserve", x.low(), 0b11);
        x.addNode(true);
        x.addCorridor(1, 2, 9, 0);
        Checks.same("where there is one then", x.low(), 0b10);
    }

    private static void lowOfHoveringDronesAlone() {
        DroneCorridors x = Build.chain("pnp", 3, 2);
        x.addDrone(0, 60);
        x.plan(0, 2);
        x.addDrone(0, 1);
        x.addDrone(1, 1);
        x.advance(1);
        x.drain(0, 200);
        Checks.same("flying, landed and lost ones are not low", x.low(), 0);
        x.advance(2);
        Checks.same("hovering with 1", x.low(), 1);
        DroneCorridors y = Build.chain("npn", 2, 2);
        y.addDrone(0, 60);
        y.addFence(0, 7, 2, 100);
        y.addFence(1, 7, 0, 9);
        y.plan(0, 2);
        y.advance(6);
        y.drain(0, 51);
        Build.droneIs("hovering at a pad with 1", y, 0, 1, 1, 0, 1);
        Checks.same("the reserve of a pad is 0", y.low(), 0);
    }
}
