/** The sentences of promises 16 to 19, 22 to 24 and 26, and of planning, that name an edge, one function each. */
public final class EdgesOfPlansTest {
    private static final int LEAST = Integer.MIN_VALUE;
    private static final int MOST = Integer.MAX_VALUE;

    public static void main(String[] arguments) {
        refusedNumbers();
        startsNowOrLater();
        endsWithinFortyTicks();
        fortyTicksWhileItFlies();
        plansBeyondTheEndOfTime();
        planOfFortyLegs();
        startsBehindAFence();
        endsBeforeAFence();
        startsDifferByAtLeastTwo();
        oneEndsAtTheStartOfTheOther();
        otherLayersAndCorridorsAreFree();
        pastLegsDoNotMatter();
        removedLegsDoNotMatter();
        legsOfALostDroneDoNotMatter();
        reserveBehindEachLeg();
        noReserveNoFlight();
        energyDownToZeroAtAPad();
        waitingIsHovering();
        waitingOnTheWayIsHovering();
        chargeDoesNotCount();
        changesOfLayers();
        earliestFirst();
        leastEnergyThen();
        lowerLayerThen();
        lowerCorridorThen();
        laterStartThen();
        legBeforeThen();
        lowerCorridorOfTheLegBefore();
        waitingAtNodeZero();
        noLegBeforeIsBetter();
        planFromTheEndOfTheLeg();
        noLegBeforeTheEndOfTheLeg();
        planToTheEndOfTheLeg();
        planToWhereItIs();
        landsAtOnce();
        refusedPlanChangesNothing();
        lostDronesAreNotPlanned();
        firstReasonThatApplies();
        reasonIsThatOfTheLastPlan();
        legNumbers();
        Checks.end();
    }

    private static void refusedNumbers() {
        DroneCorridors x = Build.chain("pn", 2);
        x.addDrone(0, 100);
        int[] drones = {LEAST, -1, 1, 6, MOST};
        for (int drone : drones) {
            Checks.noIndex("plan(" + drone + ", 0)", () -> x.plan(drone, 0));
            Checks.noIndex("arrival(" + drone + ", 0)", () -> x.arrival(drone, 0));
            Checks.noIndex("planEnergy(" + drone + ", 0)", () -> x.planEnergy(drone, 0));
            Checks.noIndex("nearestPad(" + drone + ")", () -> x.nearestPad(drone));
            Checks.noIndex("leg(" + drone + ", 0, 9)", () -> x.leg(drone, 0, 9));
        }
        int[] nodes = {LEAST, -1, 2, 32, MOST};
        for (int node : nodes) {
            Checks.noIndex("plan(0, " + node + ")", () -> x.plan(0, node));
            Checks.noIndex("arrival(0, " + node + ")", () -> x.arrival(0, node));
            Checks.noIndex("planEnergy(0, " + node + ")", () -> x.planEnergy(0, node));
        }
        Checks.noElement("no reason is kept", x::reason);
    }

    private static void startsNowOrLater() {
        DroneCorridors x = Build.chain("pn", 2);
        x.addDrone(0, 100);
        Checks.same("at 0", x.plan(0, 1), 2);
        Checks.same("its start", x.leg(0, 0, 3), 0);
        x.cancel(0);
        x.advance(17);
        Checks.same("at 17", x.plan(0, 1), 19);
        Checks.same("its start then", x.leg(0, 0, 3), 17);
    }

    private static void endsWithinFortyTicks() {
        for (int length = 1; length <= 9; length++) {
            for (int now = 0; now <= 80; now += 40) {
                DroneCorridors x = Build.chain("pn", length);
                x.addDrone(0, 100);
                Build.passTo(x, now);
                x.addFence(0, 7, 0, now + 40 - length);
                Checks.same("40 ticks from " + now, x.arrival(0, 1), now + 40);
                Checks.same("its energy", x.planEnergy(0, 1), 2 * length);
                Checks.same("plan", x.plan(0, 1), now + 40);
                Checks.same("start", x.leg(0, 0, 3), now + 40 - length);
                x.addFence(0, 7, 0, now + 41 - length);
                Checks.noElement("41 ticks from " + now, () -> x.arrival(0, 1));
                Checks.noElement("energy of 41 ticks", () -> x.planEnergy(0, 1));
                Checks.noPlan("plan of 41 ticks", () -> x.plan(0, 1));
                Checks.same("because of the fence", x.reason(), 4);
            }
        }
        DroneCorridors y = Build.chain("pnnnpp", 9, 9, 9, 9, 4);
        y.addDrone(0, 200);
        Checks.same("a long way of 40 ticks", y.arrival(0, 5), 40);
        y.addCorridor(3, 5, 9, 0);
        Checks.same("a shorter one", y.arrival(0, 5), 36);
        DroneCorridors z = Build.chain("pnnnpp", 9, 9, 9, 9, 5);
        z.addDrone(0, 200);
        Checks.noElement("a long way of 41 ticks", () -> z.arrival(0, 5));
        Checks.same("to the node before it", z.arrival(0, 4), 36);
        Checks.noPlan("plan of 41 ticks", () -> z.plan(0, 5));
        Checks.same("even without fences", z.reason(), 3);
    }

    /** The 40 ticks are counted from the present time for a drone that flies, too. */
    private static void fortyTicksWhileItFlies() {
        for (int now = 1; now <= 8; now++) {
            DroneCorridors x = Build.chain("pnp", 9, 1);
            x.addDrone(0, 100);
            x.plan(0, 1);
            x.advance(now);
            x.addFence(1, 7, 0, now + 39);
            Checks.same("up to 40 ticks, flying at " + now, x.arrival(0, 2), now + 40);
            Checks.same("hovering in between", x.planEnergy(0, 2), now + 39 - 9 + 2);
            x.addFence(1, 7, 0, now + 40);
            Checks.noElement("up to 41 ticks, flying at " + now, () -> x.arrival(0, 2));
        }
    }

    private static void plansBeyondTheEndOfTime() {
        DroneCorridors x = Build.chain("pn", 9);
        x.addDrone(0, 100);
        Build.passTo(x, 10000);
        x.addFence(0, 7, 0, 10000);
        Checks.same("a plan at the end of time", x.plan(0, 1), 10009);
        Checks.same("its place 1 tick later", x.placeAfter(0, 1), 100);
        Checks.same("its place 9 ticks later", x.placeAfter(0, 9), 1);
        Checks.same("its place 40 ticks later", x.placeAfter(0, 40), 1);
        Checks.noState("no tick passes", () -> x.advance(1));
        Checks.same("the plan stays", x.drone(0, 6), 10009);
    }

    /**
     * Flying with the wind takes no more than hovering, and the lower corridors come first, so the best plan
     * circles until the last corridor opens.
     */
    private static void planOfFortyLegs() {
        DroneCorridors x = Build.nodes("nnnp");
        x.addCorridor(1, 2, 1, 1);
        x.addCorridor(2, 1, 1, 1);
        x.addCorridor(0, 2, 1, 1);
        x.addCorridor(2, 3, 1, 1);
        x.addDrone(0, 41);
        x.addFence(3, 7, 0, 39);
        Checks.same("the energy of 40 legs", x.planEnergy(0, 3), 40);
        Checks.same("40 legs in 40 ticks", x.plan(0, 3), 40);
        Checks.same("legs", x.drone(0, 5), 40);
        Build.legIs("the first", x, 0, 0, 2, 0, 0, 0, 1);
        for (int leg = 1; leg < 39; leg++) {
            Build.legIs("circling", x, 0, leg, leg % 2, 0, 0, leg, leg + 1);
        }
        Build.legIs("the last", x, 0, 39, 3, 0, 0, 39, 40);
        Checks.noIndex("no leg behind it", () -> x.leg(0, 40, 0));
        Checks.same("uses", x.uses(0, -1) * 100 + x.uses(1, 0), 1919);
        Checks.same("its place at the end", x.placeAfter(0, 40), 3);
        Checks.same("its place before", x.placeAfter(0, 39), 2);
        String planned = Checks.look(x);
        Checks.same("cancel of 40 legs", x.cancel(0), 40);
        x.undo();
        Checks.sameLook("undo", Checks.look(x), planned);
        x.save();
        Checks.same("it lands", x.advance(40), 1);
        Build.droneIs("landed", x, 0, 0, 1, 0, 3, 3, 0, 40);
        Build.accountsAre("landed", x, 0, 40, 0, 0, 0, 40);
        x.restore();
        Checks.sameLook("restore", Checks.look(x), planned);
        x.advance(1);
        x.undo();
        x.advance(1);
        Checks.same("39 legs are left", x.drone(0, 5), 39);
        Build.legIs("the first of them", x, 0, 0, 1, 0, 0, 1, 2);
        x.addDrone(0, 38);
        Checks.noElement("one that waits takes as much", () -> x.arrival(1, 3));
    }

    private static void startsBehindAFence() {
        for (int end = 1; end <= 20; end++) {
            DroneCorridors x = Build.chain("pn", 4);
            x.addDrone(0, 100);
            x.addFence(0, 7, 0, end);
            Checks.same("a fence up to " + end, x.plan(0, 1), end + 4);
            Checks.same("is not struck", x.struck(), 0);
        }
    }

    private static void endsBeforeAFence() {
        for (int beginning = 1; beginning <= 20; beginning++) {
            DroneCorridors x = Build.chain("pn", 4);
            x.addDrone(0, 100);
            x.addFence(0, 7, 0, 7);
            x.addFence(0, 7, beginning, 30);
            boolean isRoom = beginning >= 11;
            Checks.same("a fence from " + beginning, x.plan(0, 1), isRoom ? 11 : 34);
            Checks.same("is not struck", x.struck(), 0);
        }
    }

    /** One leg starts at 5 on layer 0, the other layers are closed, another drone can start from the time on. */
    private static DroneCorridors besideALegAtFive(int where, int from) {
        DroneCorridors x = Build.chain("pp", 3);
        x.addDrone(0, 100);
        x.addDrone(where, 100);
        Build.close(x, 0, 6);
        x.addFence(0, 1, 0, 5);
        x.plan(0, 1);
        Build.legIs("the first drone", x, 0, 0, 0, 0, 0, 5, 8);
        x.removeFence(1);
        if (from > 0) {
            x.addFence(0, 1, 0, from);
        }
        return x;
    }

    private static void startsDifferByAtLeastTwo() {
        for (int from = 0; from <= 10; from++) {
            DroneCorridors x = besideALegAtFive(0, from);
            boolean isNear = from >= 4 && from <= 6;
            Checks.same("from " + from + " on", x.plan(1, 1), (isNear ? 7 : from) + 3);
            Checks.same("separated", x.pairs(true) * 10 + x.pairs(false), 10);
        }
    }

    private static void oneEndsAtTheStartOfTheOther() {
        for (int from = 0; from <= 10; from++) {
            DroneCorridors x = besideALegAtFive(1, from);
            boolean isNear = from > 2 && from < 8;
            Checks.same("back from " + from + " on", x.plan(1, 0), (isNear ? 8 : from) + 3);
            Checks.same("separated", x.pairs(true) * 10 + x.pairs(false), 10);
        }
    }

    private static void otherLayersAndCorridorsAreFree() {
        DroneCorridors x = Build.chain("pp", 3);
        for (int i = 0; i < 4; i++) {
            x.addDrone(i % 2, 100);
        }
        for (int i = 0; i < 3; i++) {
            Checks.same("drone " + i, x.plan(i, 1 - i % 2), 3);
            Checks.same("its layer", x.leg(i, 0, 2), i);
        }
        Checks.same("no layer is left", x.arrival(3, 0), 5);
        x.addCorridor(1, 0, 3, 0);
        Checks.same("another corridor is", x.plan(3, 0), 3);
        Build.legIs("it", x, 3, 0, 1, 0, 0, 0, 3);
        Checks.same("no pairs", x.pairs(true) + x.pairs(false), 0);
    }

    private static void pastLegsDoNotMatter() {
        DroneCorridors x = Build.chain("pp", 3);
        Build.close(x, 0, 6);
        x.addDrone(0, 100);
        x.addDrone(1, 100);
        x.plan(0, 1);
        for (int now = 0; now < 3; now++) {
            Checks.same("at " + now + " the leg matters", x.arrival(1, 0), 6);
            x.advance(1);
        }
        Checks.same("its end is the present time", x.count(4), 3);
        Checks.same("a leg that ends now is past", x.drone(0, 5), 0);
        Checks.same("now it does not matter", x.arrival(1, 0), 6);
        x.addDrone(0, 100);
        Checks.same("nor for its own direction", x.arrival(2, 1), 6);
        DroneCorridors y = Build.chain("pp", 1);
        Build.close(y, 0, 6);
        y.addDrone(0, 100);
        y.addDrone(0, 100);
        y.plan(0, 1);
        Checks.same("2 behind", y.arrival(1, 1), 3);
        y.advance(1);
        Checks.same("1 behind a leg that is past", y.plan(1, 1), 2);
        Checks.same("no pair", y.pairs(true) + y.pairs(false), 0);
    }

    private static void removedLegsDoNotMatter() {
        DroneCorridors x = besideALegAtFive(0, 5);
        Checks.same("beside the leg", x.arrival(1, 1), 10);
        Checks.same("its own leg", x.arrival(0, 1), 8);
        x.plan(0, 0);
        Checks.same("planned elsewhere", x.arrival(1, 1), 8);
        x.undo();
        Checks.same("undone", x.arrival(1, 1), 10);
        x.cancel(0);
        Checks.same("canceled", x.arrival(1, 1), 8);
    }

    private static void legsOfALostDroneDoNotMatter() {
        DroneCorridors x = Build.chain("np", 3);
        Build.close(x, 0, 6);
        x.addDrone(0, 100);
        x.addDrone(0, 100);
        x.plan(0, 1);
        Checks.same("beside its leg", x.arrival(1, 1), 5);
        x.drain(0, 100);
        Checks.same("it is lost", x.arrival(1, 1), 3);
    }

    private static void reserveBehindEachLeg() {
        DroneCorridors x = Build.chain("pnp", 3, 2);
        int[] energies = {5, 6, 9, 10, 11};
        for (int energy : energies) {
            x.addDrone(0, energy);
        }
        Checks.noElement("6 and the reserve 4 of 9", () -> x.arrival(2, 1));
        Checks.same("6 and the reserve 4 of 10", x.arrival(3, 1), 3);
        Checks.noElement("over a node with too little for its reserve", () -> x.arrival(2, 2));
        Checks.same("over it with just enough", x.arrival(3, 2), 5);
        x.setWind(1, -1);
        Checks.noElement("the reserve 5 of 10", () -> x.arrival(3, 1));
        Checks.same("the reserve 5 of 11", x.arrival(4, 1), 3);
        x.setWind(1, 2);
        Checks.same("the reserve 2 of 9", x.arrival(2, 1), 3);
        DroneCorridors y = Build.chain("pn", 2);
        Build.close(y, 0, 3);
        y.addDrone(0, 9);
        y.addDrone(0, 10);
        Checks.noElement("a change of layers takes of it, too", () -> y.arrival(0, 1));
        Checks.same("10 suffices", y.arrival(1, 1), 2);
    }

    private static void noReserveNoFlight() {
        DroneCorridors x = Build.chain("nn", 1);
        x.addDrone(0, 200);
        Checks.noElement("no reserve", () -> x.arrival(0, 1));
        Checks.noElement("no energy either", () -> x.planEnergy(0, 1));
        Checks.noElement("no pad", () -> x.nearestPad(0));
        Checks.same("but it is at its node", x.arrival(0, 0), 0);
        Checks.same("plan there", x.plan(0, 0), 0);
        x.addNode(true);
        Checks.noElement("a pad without a corridor", () -> x.arrival(0, 1));
        x.addCorridor(1, 2, 9, 0);
        Checks.same("with a corridor", x.arrival(0, 1), 1);
        Checks.same("to the pad", x.nearestPad(0), 2);
    }

    private static void energyDownToZeroAtAPad() {
        DroneCorridors x = Build.chain("np", 3);
        x.addDrone(0, 6);
        x.addDrone(0, 5);
        Checks.noElement("one too few", () -> x.arrival(1, 1));
        Checks.same("just enough", x.plan(0, 1), 3);
        Checks.same("it lands", x.advance(3), 1);
        Build.droneIs("with 0", x, 0, 0, 0, 0, 1);
        DroneCorridors y = Build.chain("np", 3);
        y.addDrone(0, 6);
        y.addFence(0, 7, 0, 1);
        Checks.noElement("a tick of waiting too much", () -> y.arrival(0, 1));
        DroneCorridors z = Build.chain("np", 3);
        z.addDrone(0, 7);
        z.addFence(0, 7, 0, 1);
        Checks.same("a tick of waiting", z.arrival(0, 1), 4);
    }

    private static void waitingIsHovering() {
        for (int wait = 1; wait <= 37; wait++) {
            DroneCorridors x = Build.chain("pn", 3);
            x.addDrone(0, 100);
            x.addDrone(1, 100);
            x.addFence(0, 7, 0, wait);
            Checks.same("a landed one waits for nothing", x.planEnergy(0, 1), 6);
            Checks.same("a hovering one for 1 a tick", x.planEnergy(1, 0), 6 + wait);
            Checks.same("both arrive then", x.arrival(0, 1) * 100 + x.arrival(1, 0), (wait + 3) * 101);
        }
    }

    private static void waitingOnTheWayIsHovering() {
        DroneCorridors x = Build.chain("ppp", 3, 2);
        x.addDrone(0, 100);
        x.addFence(0, 7, 3, 100);
        x.addFence(1, 7, 0, 7);
        Checks.same("4 ticks at a pad on its way", x.planEnergy(0, 2), 6 + 4 + 4);
        x.plan(0, 2);
        x.advance(7);
        Build.droneIs("it hovers there", x, 0, 1, 90, 0, 1, 2, 1, 9);
        x.advance(2);
        Build.accountsAre("and is not charged", x, 0, 10, 0, 4, 0, 2);
    }

    /** What a landed drone will gain does not count for planning. */
    private static void chargeDoesNotCount() {
        DroneCorridors x = Build.chain("pp", 3);
        x.addDrone(0, 5);
        x.addFence(0, 7, 0, 30);
        Checks.noPlan("with what it has now", () -> x.plan(0, 1));
        Checks.same("even without fences", x.reason(), 3);
        x.advance(1);
        Checks.same("a tick later", x.plan(0, 1), 33);
    }

    private static void changesOfLayers() {
        for (int from = 0; from < 3; from++) {
            for (int to = 0; to < 3; to++) {
                DroneCorridors x = Build.chain("pnp", 2, 2);
                x.addDrone(0, 100);
                Build.close(x, 0, 7 & ~(1 << from));
                Build.close(x, 1, 7 & ~(1 << to));
                String what = "from layer " + from + " to layer " + to;
                Checks.same(what, x.planEnergy(0, 2), 8 + from + Math.abs(to - from));
                x.plan(0, 2);
                x.advance(2);
                Checks.same(what + ", hovering on", x.drone(0, 2), from);
                Checks.same(what + ", hovering", x.planEnergy(0, 2), 4 + Math.abs(to - from));
                x.advance(2);
                Build.droneIs(what + ", landed", x, 0, 0, 92 - from - Math.abs(to - from), 0, 2);
                Build.accountsAre(what, x, 0, 8, from + Math.abs(to - from), 0, 0, 2);
            }
        }
    }

    private static void earliestFirst() {
        DroneCorridors x = Build.nodes("pp");
        x.addCorridor(0, 1, 5, 5);
        x.addCorridor(0, 1, 4, -4);
        x.addDrone(0, 100);
        Checks.same("4 ticks for 12 before 5 ticks for 5", x.arrival(0, 1), 4);
        Checks.same("its energy", x.planEnergy(0, 1), 12);
        Build.close(x, 1, 3);
        Checks.same("on layer 2, too", x.arrival(0, 1), 4);
        x.drain(0, 87);
        Checks.same("without the energy for it", x.arrival(0, 1), 5);
    }

    private static void leastEnergyThen() {
        DroneCorridors x = Build.nodes("pp");
        x.addCorridor(0, 1, 4, 0);
        x.addCorridor(0, 1, 4, 3);
        x.addDrone(0, 100);
        Build.close(x, 1, 3);
        x.plan(0, 1);
        Build.legIs("on layer 2 for 7 before on layer 0 for 8", x, 0, 0, 1, 0, 2, 0, 4);
        x.setWind(1, 1);
        x.plan(0, 1);
        Build.legIs("on layer 0 for 8 before on layer 2 for 9", x, 0, 0, 0, 0, 0, 0, 4);
    }

    private static void lowerLayerThen() {
        DroneCorridors x = Build.nodes("pp");
        x.addCorridor(0, 1, 4, 1);
        x.addCorridor(0, 1, 4, 0);
        x.addDrone(0, 100);
        Build.close(x, 0, 1);
        x.plan(0, 1);
        Build.legIs("layer 0 for 8 before layer 1 of a lower corridor for 8", x, 0, 0, 1, 0, 0, 0, 4);
        DroneCorridors y = Build.nodes("pp");
        y.addCorridor(0, 1, 4, 1);
        y.addCorridor(0, 1, 4, 2);
        y.addDrone(0, 100);
        Build.close(y, 0, 1);
        Build.close(y, 1, 3);
        y.plan(0, 1);
        Build.legIs("layer 1 for 8 before layer 2 for 8", y, 0, 0, 0, 0, 1, 0, 4);
    }

    private static void lowerCorridorThen() {
        DroneCorridors x = Build.nodes("pp");
        for (int i = 0; i < 16; i++) {
            x.addCorridor(i % 2, 1 - i % 2, 4, i < 3 ? 2 * (i % 2) - 1 : 0);
        }
        x.addDrone(0, 100);
        x.plan(0, 1);
        Build.legIs("the lowest of those for 8", x, 0, 0, 3, 1, 0, 0, 4);
        x.addFence(3, 1, 0, 1);
        x.plan(0, 1);
        Build.legIs("the next one", x, 0, 0, 4, 0, 0, 0, 4);
    }

    private static void laterStartThen() {
        DroneCorridors x = Build.nodes("nnp");
        x.addCorridor(0, 1, 1, 1);
        x.addCorridor(0, 1, 1, 1);
        x.addCorridor(1, 2, 2, 2);
        x.addDrone(0, 100);
        x.addFence(2, 7, 0, 6);
        x.plan(0, 2);
        Build.legIs("the latest start", x, 0, 0, 0, 0, 0, 5, 6);
        x.addFence(0, 7, 3, 100);
        x.plan(0, 2);
        Build.legIs("the lower corridor before the later start", x, 0, 0, 0, 0, 0, 2, 3);
        Build.legIs("waiting behind it", x, 0, 1, 2, 0, 0, 6, 8);
        x.addFence(0, 7, 0, 100);
        x.plan(0, 2);
        Build.legIs("the other corridor", x, 0, 0, 1, 0, 0, 5, 6);
        x.addFence(1, 1, 2, 100);
        x.plan(0, 2);
        Build.legIs("less energy before the later start", x, 0, 0, 1, 0, 0, 1, 2);
    }

    private static void legBeforeThen() {
        DroneCorridors x = Build.nodes("pnnp");
        x.addCorridor(2, 3, 2, 0);
        x.addCorridor(1, 2, 1, 0);
        x.addCorridor(0, 1, 1, 0);
        x.addCorridor(0, 1, 1, 0);
        x.addDrone(0, 100);
        Build.close(x, 0, 3);
        x.addFence(2, 3, 0, 100);
        x.plan(0, 3);
        Build.legIs("the last on layer 2", x, 0, 2, 0, 0, 2, 2, 4);
        Build.legIs("the lower layer before it", x, 0, 1, 1, 0, 0, 1, 2);
        Build.legIs("on layer 0, so by the higher corridor", x, 0, 0, 3, 0, 0, 0, 1);
        x.addFence(3, 7, 0, 1);
        Checks.same("two changes in all", x.planEnergy(0, 3), 8 + 2);
        x.plan(0, 3);
        Build.legIs("the lower layer that takes no more", x, 0, 1, 1, 0, 2, 1, 2);
        Build.legIs("the layer that is open", x, 0, 0, 2, 0, 2, 0, 1);
    }

    private static void lowerCorridorOfTheLegBefore() {
        for (int lowest = 1; lowest < 5; lowest++) {
            DroneCorridors x = Build.nodes("pnp");
            x.addCorridor(1, 2, 2, 0);
            for (int i = 1; i < 6; i++) {
                x.addCorridor(0, 1, 2, i < lowest ? 0 : 1);
            }
            x.addDrone(0, 100);
            x.plan(0, 2);
            Build.legIs("the lowest of those for 3", x, 0, 0, lowest, 0, 0, 0, 2);
        }
    }

    private static void waitingAtNodeZero() {
        DroneCorridors x = Build.nodes("npp");
        x.addCorridor(1, 0, 2, 0);
        x.addCorridor(0, 2, 2, 0);
        x.addDrone(1, 100);
        Checks.same("over node 0 at once", x.arrival(0, 2), 4);
        x.addFence(1, 7, 0, 7);
        x.addFence(0, 7, 2, 7);
        Checks.same("waiting at node 0", x.plan(0, 2), 9);
        Checks.same("for 5 ticks", x.planEnergy(0, 2), 8 + 5);
        Build.legIs("there", x, 0, 0, 0, 0, 0, 0, 2);
        Build.legIs("and on", x, 0, 1, 1, 0, 0, 7, 9);
    }

    private static void noLegBeforeIsBetter() {
        DroneCorridors x = Build.nodes("nnp");
        x.addCorridor(0, 1, 1, 1);
        x.addCorridor(1, 0, 1, 1);
        x.addCorridor(0, 2, 1, 1);
        x.addDrone(0, 100);
        x.addFence(2, 7, 0, 6);
        Checks.same("as much as circling", x.planEnergy(0, 2), 7);
        x.plan(0, 2);
        Checks.same("no leg before the last one", x.drone(0, 5), 1);
        Build.legIs("waiting", x, 0, 0, 2, 0, 0, 6, 7);
    }

    private static void planFromTheEndOfTheLeg() {
        DroneCorridors x = Build.chain("pnpn", 3, 2, 1);
        x.addDrone(0, 100);
        x.plan(0, 3);
        x.advance(1);
        Checks.same("from the end on", x.planEnergy(0, 2), 4);
        Checks.same("planned anew", x.plan(0, 2), 5);
        Build.legIs("the leg in which it flies", x, 0, 0, 0, 0, 0, 0, 3);
        Build.legIs("the leg behind it", x, 0, 1, 1, 0, 0, 3, 5);
        Checks.same("two legs", x.drone(0, 5), 2);
        Checks.same("back", x.plan(0, 0), 6);
        Build.legIs("the leg back", x, 0, 1, 0, 1, 0, 3, 6);
        x.drain(0, 89);
        Checks.same("5 is left", x.drone(0, 1), 5);
        Checks.noElement("too little for the way back", () -> x.arrival(0, 0));
        Checks.same("enough for the other one", x.arrival(0, 2), 5);
    }

    /** What another drone could start earlier is nothing for one that flies until later. */
    private static void noLegBeforeTheEndOfTheLeg() {
        DroneCorridors x = Build.chain("pnp", 9, 2);
        x.addDrone(0, 100);
        x.addDrone(1, 100);
        x.plan(0, 1);
        x.advance(1);
        for (int now = 1; now < 9; now++) {
            Checks.same("the other one can start now", x.arrival(1, 2), now + 2);
            Checks.same("this one behind its leg", x.arrival(0, 2), 11);
            Checks.same("for nothing but the leg", x.planEnergy(0, 2), 4);
            Checks.same("its nearest pad", x.nearestPad(0), 2);
            x.advance(1);
        }
    }

    private static void planToTheEndOfTheLeg() {
        DroneCorridors x = Build.chain("npn", 3, 2);
        x.addDrone(0, 100);
        x.plan(0, 2);
        x.advance(1);
        Checks.same("as if it were there", x.arrival(0, 1), 3);
        Checks.same("for nothing", x.planEnergy(0, 1), 0);
        Checks.same("plan", x.plan(0, 1), 3);
        Build.droneIs("planned", x, 0, 2, 94, 0, 1, 1, 1, 3);
        Checks.same("it lands at the end of the leg", x.advance(2), 1);
        DroneCorridors y = Build.nodes("nnp");
        y.addCorridor(0, 1, 3, 0);
        y.addCorridor(0, 2, 3, 0);
        y.addDrone(0, 100);
        y.plan(0, 1);
        y.advance(1);
        y.drain(0, 200);
        Checks.same("there with 1, whatever the reserve", y.plan(0, 1), 3);
    }

    private static void planToWhereItIs() {
        DroneCorridors x = Build.chain("pn", 3);
        x.addNode(false);
        for (int drone = 0; drone < 3; drone++) {
            x.addDrone(drone, 1);
        }
        for (int drone = 0; drone < 3; drone++) {
            Checks.same("arrival", x.arrival(drone, drone), 0);
            Checks.same("energy", x.planEnergy(drone, drone), 0);
            Checks.same("plan", x.plan(drone, drone), 0);
            Build.droneIs("planned", x, drone, drone == 0 ? 0 : 1, 1, 0, drone, drone, 0, 0);
        }
    }

    /** If the node is a pad and the drone hovers there, it lands at once. */
    private static void landsAtOnce() {
        DroneCorridors x = Build.chain("npn", 2, 2);
        x.addDrone(0, 100);
        Build.close(x, 0, 3);
        x.addFence(0, 7, 2, 100);
        x.addFence(1, 7, 0, 9);
        x.plan(0, 2);
        x.advance(2);
        Build.droneIs("hovering at the pad", x, 0, 1, 94, 2, 1, 2, 1, 11);
        Checks.same("planned there", x.plan(0, 1), 2);
        Build.droneIs("landed", x, 0, 0, 94, 0, 1, 1, 0, 2);
        Build.accountsAre("for nothing", x, 0, 4, 2, 0, 0, 1);
        Checks.same("advance does not count it", x.advance(1), 0);
        Build.droneIs("charged", x, 0, 0, 97, 0, 1, 1, 0, 3);
        Checks.same("off from layer 0", x.planEnergy(0, 2), 4);
        x.undo();
        x.undo();
        Build.droneIs("undone", x, 0, 1, 94, 2, 1, 2, 1, 11);
        x.cancel(0);
        Build.droneIs("cancel lets it hover", x, 0, 1, 94, 2, 1, -1, 0, 2);
    }

    private static void refusedPlanChangesNothing() {
        DroneCorridors x = Build.chain("pnnn", 2, 2);
        x.addDrone(0, 100);
        x.plan(0, 2);
        String planned = Checks.look(x);
        Checks.noPlan("to a node without a reserve", () -> x.plan(0, 3));
        Checks.sameLook("the earlier plan", Checks.look(x), planned);
        Checks.same("no change", x.undo(), 7);
        Checks.same("it was the plan that is undone", x.drone(0, 5), 0);
    }

    private static void lostDronesAreNotPlanned() {
        DroneCorridors x = Build.chain("pn", 2);
        x.addDrone(1, 1);
        x.advance(1);
        for (int node = 0; node < 2; node++) {
            int to = node;
            Checks.noPlan("plan of a lost one", () -> x.plan(0, to));
            Checks.same("reason", x.reason(), 1);
            Checks.noElement("arrival of a lost one", () -> x.arrival(0, to));
            Checks.noElement("planEnergy of a lost one", () -> x.planEnergy(0, to));
        }
        Checks.noElement("nearestPad of a lost one", () -> x.nearestPad(0));
        Checks.noIndex("plan of a lost one to no node", () -> x.plan(0, 2));
        Checks.same("reroute", x.reroute(), 0);
    }

    private static void firstReasonThatApplies() {
        DroneCorridors x = Build.chain("pnn", 2);
        x.addDrone(0, 100);
        x.addDrone(1, 1);
        x.addDrone(0, 1);
        x.addDrone(0, 100);
        Build.close(x, 0, 6);
        x.plan(3, 1);
        x.advance(1);
        Checks.noPlan("lost, without a reserve", () -> x.plan(1, 2));
        Checks.same("lost comes first", x.reason(), 1);
        Checks.noPlan("no reserve, no energy", () -> x.plan(2, 2));
        Checks.same("no reserve comes next", x.reason(), 2);
        x.addFence(0, 1, 2, 100);
        Checks.noPlan("no energy, fenced, another drone", () -> x.plan(2, 1));
        Checks.same("without fences and drones comes next", x.reason(), 3);
        Checks.noPlan("fenced, another drone", () -> x.plan(0, 1));
        Checks.same("without drones comes next", x.reason(), 4);
        x.removeFence(1);
        x.addFence(0, 1, 3, 100);
        Checks.noPlan("another drone", () -> x.plan(0, 1));
        Checks.same("otherwise", x.reason(), 5);
        x.removeFence(1);
        x.addFence(0, 1, 4, 100);
        Checks.same("room behind the other drone", x.arrival(0, 1), 4);
    }

    private static void reasonIsThatOfTheLastPlan() {
        DroneCorridors x = Build.chain("pnn", 2);
        x.addDrone(0, 1);
        x.addDrone(0, 100);
        Checks.noElement("none", x::reason);
        Checks.noElement("arrival", () -> x.arrival(0, 2));
        Checks.noElement("nearestPad is answered, planEnergy is not", () -> x.planEnergy(0, 1));
        Checks.noElement("still none", x::reason);
        Checks.noPlan("plan", () -> x.plan(0, 1));
        Checks.same("kept", x.reason(), 3);
        Checks.noPlan("plan", () -> x.plan(0, 2));
        Checks.same("kept last", x.reason(), 2);
        Checks.same("asked again", x.reason(), 2);
        x.plan(1, 1);
        Checks.noIndex("no node", () -> x.plan(1, 3));
        Checks.noElement("arrival", () -> x.arrival(0, 1));
        x.addFence(0, 7, 0, 100);
        x.reroute();
        Checks.same("by nothing else", x.reason(), 2);
    }

    private static void legNumbers() {
        DroneCorridors x = Build.chain("pnp", 3, 2);
        x.addDrone(0, 100);
        Checks.noIndex("no leg", () -> x.leg(0, 0, 0));
        Checks.noIndex("no leg, no number", () -> x.leg(0, 0, 5));
        x.plan(0, 2);
        int[] wrong = {LEAST, -1, 2, 41, MOST};
        for (int index : wrong) {
            Checks.noIndex("leg " + index, () -> x.leg(0, index, 0));
            Checks.noIndex("leg " + index + ", no number", () -> x.leg(0, index, -1));
        }
        Checks.noArgument("what -1", () -> x.leg(0, 1, -1));
        Checks.noArgument("what 5", () -> x.leg(0, 1, 5));
        Build.legIs("first", x, 0, 0, 0, 0, 0, 0, 3);
        Build.legIs("second", x, 0, 1, 1, 0, 0, 3, 5);
        x.advance(2);
        Build.legIs("the first has not ended", x, 0, 0, 0, 0, 0, 0, 3);
        x.advance(1);
        Build.legIs("the first has ended", x, 0, 0, 1, 0, 0, 3, 5);
        Checks.noIndex("one leg", () -> x.leg(0, 1, 0));
        x.advance(2);
        Checks.noIndex("no leg any more", () -> x.leg(0, 0, 0));
    }
}
