/** The sentences of promises 22 to 24 that name an edge, one function each. */
public final class EdgesOfReroutesTest {
    public static void main(String[] arguments) {
        struckAsASet();
        struckByOneOfSeveralLegs();
        rerouteOfNone();
        rerouteCountsTheStruckAlone();
        rerouteKeepsWithinFortyTicks();
        rerouteFallsBackToTheEarliestPad();
        rerouteOfALandedDroneStaysAtItsPad();
        rerouteLandsADroneAtAPad();
        rerouteWithoutAPad();
        rerouteWhileItFlies();
        rerouteWhileItFliesToAPad();
        rerouteWhileItFliesToNowhere();
        rerouteInAscendingOrder();
        rerouteHeedsLegsBehindThatAreStillStruck();
        rerouteHeedsLegsThatAreNotStruck();
        rerouteWithLittleEnergy();
        nearestPadAtAPad();
        nearestPadWhileHoveringAtAPad();
        nearestPadOfALostDrone();
        nearestPadOfTheLowestNumber();
        nearestPadWithinFortyTicks();
        nearestPadOfAFlyingDrone();
        nearestPadWithoutEnergy();
        nearestPadHeedsOtherDrones();
        rerouteFallsBackHeedingOtherDrones();
        Checks.end();
    }

    /** Pad 0, from which six corridors of 2 ticks go to node 1. */
    private static DroneCorridors bundle() {
        DroneCorridors x = Build.nodes("pn");
        for (int i = 0; i < 6; i++) {
            x.addCorridor(0, 1, 2, 0);
        }
        return x;
    }

    private static void struckAsASet() {
        DroneCorridors x = bundle();
        for (int i = 0; i < 6; i++) {
            x.addDrone(0, 100);
            x.plan(i, 1);
            Checks.same("each one in a corridor", x.leg(i, 0, 0), i);
        }
        Checks.same("none is struck", x.struck(), 0);
        for (int i = 5; i >= 0; i--) {
            Checks.same("struck from " + i + " on", x.addFence(i, 7, 0, 1), 0b111111 & -1 << i);
        }
        Checks.same("struck", x.struck(), 0b111111);
        x.cancel(3);
        Checks.same("without a leg it is not struck", x.struck(), 0b110111);
        x.advance(1);
        Checks.same("nor with one that has started", x.struck(), 0);
    }

    private static void struckByOneOfSeveralLegs() {
        for (int leg = 0; leg < 3; leg++) {
            DroneCorridors x = Build.chain("pnnp", 2, 2, 2);
            x.addDrone(0, 100);
            x.plan(0, 3);
            Checks.same("leg " + leg, x.addFence(leg, 1, 2 * leg, 2 * leg + 1), 1);
            Build.passTo(x, 2 * leg);
            Checks.same("it has not started", x.struck(), 1);
            x.advance(1);
            Checks.same("it has started", x.struck(), 0);
        }
    }

    private static void rerouteOfNone() {
        DroneCorridors x = Build.chain("pn", 2);
        x.addDrone(0, 100);
        x.plan(0, 1);
        x.addFence(0, 7, 2, 100);
        String before = Checks.look(x);
        Checks.same("reroute of none", x.reroute(), 0);
        Checks.sameLook("reroute of none", Checks.look(x), before);
        Checks.same("is a change all the same", x.undo(), 6);
    }

    /** reroute counts the struck drones alone. */
    private static void rerouteCountsTheStruckAlone() {
        DroneCorridors x = bundle();
        for (int i = 0; i < 6; i++) {
            x.addDrone(0, 100);
            x.plan(i, 1);
        }
        x.addFence(1, 1, 0, 1);
        x.addFence(4, 1, 0, 1);
        Checks.same("two of six", x.reroute(), 2);
        for (int i = 0; i < 6; i++) {
            Checks.same("all keep their destination", x.drone(i, 4), 1);
        }
        Checks.same("none is struck then", x.struck(), 0);
        Checks.same("again", x.reroute(), 0);
    }

    private static void rerouteKeepsWithinFortyTicks() {
        for (int end = 38; end <= 39; end++) {
            DroneCorridors x = Build.chain("pn", 2);
            x.addDrone(0, 100);
            x.plan(0, 1);
            x.addFence(0, 7, 0, end);
            Checks.same("a fence up to " + end, x.reroute(), end == 38 ? 1 : 0);
            Build.droneIs("rerouted", x, 0, 0, 100, 0, 0, end == 38 ? 1 : 0, end == 38 ? 1 : 0, end == 38 ? 40 : 0);
        }
    }

    /** A hovering drone at node 0, whose way to node 1 is fenced; pads 2 to 4 at the distances. */
    private static DroneCorridors fallingBack(int... distances) {
        DroneCorridors x = Build.nodes("nnppp");
        x.addCorridor(0, 1, 1, 0);
        for (int i = 0; i < distances.length; i++) {
            x.addCorridor(0, 2 + i, distances[i], 0);
        }
        x.addDrone(0, 100);
        x.plan(0, 1);
        Build.close(x, 0, 7);
        return x;
    }

    private static void rerouteFallsBackToTheEarliestPad() {
        int[][] distances = {{1, 1, 1}, {2, 1, 1}, {2, 2, 1}, {1, 2, 1}, {3, 2, 2}, {9, 9, 9}};
        int[] want = {2, 3, 4, 2, 3, 2};
        for (int i = 0; i < want.length; i++) {
            DroneCorridors x = fallingBack(distances[i]);
            Checks.same("none keeps its destination", x.reroute(), 0);
            Checks.same("the pad becomes its destination", x.drone(0, 4), want[i]);
            Checks.same("with one leg", x.drone(0, 5), 1);
            Checks.same("in its corridor", x.leg(0, 0, 0), want[i] - 1);
            x.advance(9);
            int ticks = distances[i][want[i] - 2];
            Build.droneIs("it lands there", x, 0, 0, 100 - 2 * ticks + 3 * (9 - ticks), 0, want[i]);
        }
    }

    private static void rerouteOfALandedDroneStaysAtItsPad() {
        DroneCorridors x = Build.chain("pnp", 2, 2);
        x.addDrone(0, 100);
        x.plan(0, 1);
        Build.close(x, 0, 7);
        Checks.same("it does not keep its destination", x.reroute(), 0);
        Build.droneIs("at a pad already", x, 0, 0, 100, 0, 0, 0, 0, 0);
    }

    private static void rerouteLandsADroneAtAPad() {
        DroneCorridors x = Build.chain("npn", 2, 2);
        x.addDrone(0, 100);
        Build.close(x, 0, 1);
        x.addFence(0, 7, 2, 100);
        x.addFence(1, 7, 0, 9);
        x.plan(0, 2);
        x.advance(3);
        Build.droneIs("hovering at the pad", x, 0, 1, 94, 1, 1, 2, 1, 11);
        Build.close(x, 1, 7);
        Checks.same("reroute", x.reroute(), 0);
        Build.droneIs("it lands at once", x, 0, 0, 94, 0, 1, 1, 0, 3);
        Checks.same("advance does not count it", x.advance(1), 0);
    }

    private static void rerouteWithoutAPad() {
        DroneCorridors x = fallingBack(9);
        Build.close(x, 1, 7);
        Checks.same("reroute", x.reroute(), 0);
        Build.droneIs("it hovers", x, 0, 1, 100, 0, 0, -1, 0, 0);
        x.advance(2);
        Build.droneIs("it hovers on", x, 0, 1, 98, 0, 0, -1, 0, 2);
        DroneCorridors y = fallingBack(9);
        y.addFence(1, 7, 0, 31);
        Checks.same("reroute within 40 ticks", y.reroute() + y.drone(0, 6), 40);
        y.cancel(0);
        y.addFence(1, 7, 0, 32);
        Checks.noElement("no pad within 40 ticks", () -> y.nearestPad(0));
    }

    private static void rerouteWhileItFlies() {
        DroneCorridors x = Build.nodes("pnnp");
        x.addCorridor(0, 1, 3, 0);
        x.addCorridor(1, 2, 2, 0);
        x.addCorridor(1, 2, 2, 0);
        x.addCorridor(2, 3, 1, 0);
        x.addDrone(0, 100);
        x.plan(0, 2);
        x.advance(1);
        x.addFence(1, 7, 0, 100);
        Checks.same("over the other corridor", x.reroute(), 1);
        Build.legIs("it flies on", x, 0, 0, 0, 0, 0, 0, 3);
        Build.legIs("from the end of its leg on", x, 0, 1, 2, 0, 0, 3, 5);
        x.addFence(2, 7, 0, 100);
        Checks.same("back to the pad", x.reroute(), 0);
        Build.legIs("it flies on", x, 0, 0, 0, 0, 0, 0, 3);
        Build.legIs("back", x, 0, 1, 0, 1, 0, 3, 6);
        Checks.same("its destination", x.drone(0, 4), 0);
    }

    private static void rerouteWhileItFliesToAPad() {
        DroneCorridors x = Build.chain("npn", 3, 2);
        x.addDrone(0, 100);
        x.plan(0, 2);
        x.advance(1);
        Build.close(x, 1, 7);
        Checks.same("reroute", x.reroute(), 0);
        Build.droneIs("it flies on to the pad", x, 0, 2, 94, 0, 1, 1, 1, 3);
        Checks.same("and lands there", x.advance(2), 1);
    }

    private static void rerouteWhileItFliesToNowhere() {
        DroneCorridors x = Build.chain("pnp", 3, 2);
        x.addDrone(0, 100);
        x.plan(0, 2);
        x.advance(1);
        Build.close(x, 0, 7);
        Build.close(x, 1, 7);
        Checks.same("struck by what it does not fly in yet", x.struck(), 1);
        Checks.same("reroute", x.reroute(), 0);
        Build.droneIs("its leg stays, its destination does not", x, 0, 2, 94, 0, 1, -1, 1, 3);
        Checks.same("struck no more", x.struck(), 0);
        x.advance(2);
        Build.droneIs("it hovers", x, 0, 1, 94, 0, 1, -1, 0, 3);
    }

    private static void rerouteInAscendingOrder() {
        DroneCorridors x = Build.chain("pn", 2);
        Build.close(x, 0, 6);
        for (int i = 0; i < 4; i++) {
            x.addDrone(0, 100);
        }
        x.plan(3, 1);
        x.plan(2, 1);
        x.plan(1, 1);
        x.plan(0, 1);
        for (int i = 0; i < 4; i++) {
            Checks.same("the start of " + i, x.leg(i, 0, 3), 6 - 2 * i);
        }
        Checks.same("all are struck", x.addFence(0, 1, 0, 7), 0b1111);
        Checks.same("all keep their destination", x.reroute(), 4);
        for (int i = 0; i < 4; i++) {
            Checks.same("the start of " + i + " then", x.leg(i, 0, 3), 7 + 2 * i);
        }
        Checks.same("all separated", x.pairs(false), 0);
    }

    /** For each one, the legs of the drones behind it that are still struck count for the separation. */
    private static void rerouteHeedsLegsBehindThatAreStillStruck() {
        DroneCorridors x = Build.chain("pn", 3);
        Build.close(x, 0, 6);
        x.addDrone(0, 100);
        x.addDrone(1, 100);
        x.plan(0, 1);
        Checks.same("the one behind it goes back at 3", x.plan(1, 0), 6);
        Checks.same("both are struck", x.addFence(0, 1, 2, 4), 0b11);
        x.addFence(0, 1, 8, 100);
        Checks.same("the first has no room", x.reroute(), 1);
        Build.droneIs("it stays", x, 0, 0, 100, 0, 0, 0, 0, 0);
        Build.legIs("the second has it", x, 1, 0, 0, 1, 0, 4, 7);
    }

    private static void rerouteHeedsLegsThatAreNotStruck() {
        DroneCorridors x = Build.chain("pn", 2);
        Build.close(x, 0, 6);
        for (int i = 0; i < 3; i++) {
            x.addDrone(0, 100);
            x.plan(i, 1);
        }
        Checks.same("the first is struck", x.addFence(0, 1, 0, 1), 0b001);
        Checks.same("it keeps its destination", x.reroute(), 1);
        Checks.same("behind the two others", x.leg(0, 0, 3), 6);
        Checks.same("which stay", x.leg(1, 0, 3) * 10 + x.leg(2, 0, 3), 24);
    }

    private static void rerouteWithLittleEnergy() {
        DroneCorridors x = Build.chain("npp", 2, 2);
        x.addDrone(0, 9);
        x.plan(0, 2);
        x.addFence(1, 7, 0, 3);
        Checks.same("one tick of waiting", x.reroute(), 1);
        Checks.same("just enough", x.planEnergy(0, 2), 9);
        x.addFence(1, 7, 3, 4);
        Checks.same("two ticks of waiting are too much", x.reroute(), 0);
        Build.droneIs("it goes to the pad before", x, 0, 1, 9, 0, 0, 1, 1, 2);
    }

    private static void nearestPadAtAPad() {
        DroneCorridors x = Build.nodes("ppn");
        x.addCorridor(1, 0, 1, 1);
        x.addCorridor(1, 2, 1, 1);
        x.addDrone(1, 1);
        Checks.same("landed at a pad", x.nearestPad(0), 1);
        Build.close(x, 0, 7);
        Checks.same("which no fence bars", x.nearestPad(0), 1);
        x.drain(0, 1);
        Checks.same("even without energy", x.nearestPad(0), 1);
    }

    /** Pads 0 and 2, and node 1 and 3; a drone that hovers at pad 2 on its way from 1 to 3. */
    private static DroneCorridors hoveringAtPadTwo() {
        DroneCorridors x = Build.nodes("pnpn");
        x.addCorridor(1, 2, 2, 0);
        x.addCorridor(2, 3, 2, 0);
        x.addCorridor(2, 0, 1, 1);
        x.addDrone(1, 100);
        x.addFence(0, 7, 2, 100);
        x.addFence(1, 7, 0, 9);
        x.plan(0, 3);
        x.advance(3);
        Build.droneIs("hovering at pad 2", x, 0, 1, 95, 0, 2, 3, 1, 11);
        return x;
    }

    /** A pad at which a drone is counts for nearestPad, with the present time as the arrival. */
    private static void nearestPadWhileHoveringAtAPad() {
        DroneCorridors x = hoveringAtPadTwo();
        Checks.same("where it is, not the lower pad a tick away", x.nearestPad(0), 2);
        x.drain(0, 94);
        Checks.same("with 1, too", x.nearestPad(0), 2);
        Checks.same("to ask is no landing", x.drone(0, 0), 1);
    }

    private static void nearestPadOfALostDrone() {
        DroneCorridors x = hoveringAtPadTwo();
        x.drain(0, 95);
        Checks.same("lost at a pad", x.drone(0, 0) * 10 + x.drone(0, 3), 32);
        Checks.noElement("nothing is planned for it", () -> x.nearestPad(0));
    }

    private static void nearestPadOfTheLowestNumber() {
        for (int lower = 1; lower <= 3; lower++) {
            DroneCorridors x = Build.nodes("nppp");
            for (int pad = 3; pad >= 1; pad--) {
                x.addCorridor(0, pad, pad < lower ? 3 : 2, 0);
            }
            x.addDrone(0, 100);
            Checks.same("the lowest of the nearest", x.nearestPad(0), lower);
        }
        DroneCorridors y = Build.nodes("npnnnnnnnp");
        y.addCorridor(0, 9, 2, 0);
        y.addCorridor(0, 1, 2, 0);
        y.addDrone(0, 100);
        Checks.same("pads 1 and 9", y.nearestPad(0), 1);
        y.addFence(1, 7, 0, 1);
        Checks.same("a tick later at pad 1", y.nearestPad(0), 9);
        Build.close(y, 0, 7);
        Checks.same("pad 9 is closed", y.nearestPad(0), 1);
        y.addFence(1, 7, 0, 100);
        Checks.noElement("both are closed", () -> y.nearestPad(0));
    }

    private static void nearestPadWithinFortyTicks() {
        DroneCorridors x = Build.chain("np", 5);
        x.addDrone(0, 100);
        x.addFence(0, 7, 0, 35);
        Checks.same("in 40 ticks", x.nearestPad(0), 1);
        x.addFence(0, 7, 0, 36);
        Checks.noElement("in 41 ticks", () -> x.nearestPad(0));
        x.advance(1);
        Checks.same("in 40 ticks then", x.nearestPad(0), 1);
    }

    private static void nearestPadOfAFlyingDrone() {
        DroneCorridors x = Build.nodes("pnpp");
        x.addCorridor(0, 1, 5, 0);
        x.addCorridor(1, 2, 4, 0);
        x.addCorridor(1, 3, 3, 0);
        x.addDrone(0, 100);
        x.plan(0, 1);
        x.advance(1);
        Checks.same("from the end of its leg on", x.nearestPad(0), 3);
        Build.close(x, 2, 7);
        Checks.same("the next one", x.nearestPad(0), 2);
        Build.close(x, 1, 7);
        Checks.same("back", x.nearestPad(0), 0);
        Build.close(x, 0, 7);
        Checks.noElement("none", () -> x.nearestPad(0));
    }

    private static void nearestPadWithoutEnergy() {
        DroneCorridors x = Build.nodes("npp");
        x.addCorridor(0, 1, 2, 0);
        x.addCorridor(0, 2, 3, 3);
        x.addDrone(0, 4);
        Checks.same("the nearest with 4", x.nearestPad(0), 1);
        x.drain(0, 1);
        Checks.same("the one for 3 with 3", x.nearestPad(0), 2);
        x.drain(0, 1);
        Checks.noElement("none with 2", () -> x.nearestPad(0));
    }

    /** A drone at node 0; pad 1 at 2 ticks on one layer, on which another drone comes, and pad 2 at 3 ticks. */
    private static DroneCorridors withAnOppositeDrone() {
        DroneCorridors x = Build.nodes("nppn");
        x.addCorridor(0, 1, 2, 0);
        x.addCorridor(0, 2, 3, 0);
        x.addCorridor(0, 3, 1, 0);
        Build.close(x, 0, 6);
        x.addDrone(0, 100);
        x.addDrone(1, 100);
        x.plan(1, 0);
        return x;
    }

    private static void nearestPadHeedsOtherDrones() {
        DroneCorridors x = withAnOppositeDrone();
        Checks.same("beside the other drone it is nearer", x.nearestPad(0), 2);
        x.advance(1);
        Checks.same("while that flies, too", x.nearestPad(0), 1);
        x.undo();
        x.cancel(1);
        Checks.same("without the other drone", x.nearestPad(0), 1);
    }

    private static void rerouteFallsBackHeedingOtherDrones() {
        DroneCorridors x = withAnOppositeDrone();
        x.plan(0, 3);
        Build.close(x, 2, 7);
        Checks.same("it cannot keep its destination", x.reroute(), 0);
        Checks.same("the pad nearer beside the other drone", x.drone(0, 4), 2);
        Checks.same("separated", x.pairs(false), 0);
        x.undo();
        x.cancel(1);
        x.reroute();
        Checks.same("the pad nearer without the other drone", x.drone(0, 4), 1);
    }
}
