/** The sentences of promises 1 to 13 that name an edge, one function each. */
public final class EdgesOfNetworkTest {
    private static final int LEAST = Integer.MIN_VALUE;
    private static final int MOST = Integer.MAX_VALUE;

    public static void main(String[] arguments) {
        newObjectHasNoNodes();
        objectsAreApart();
        clearOfAllThatFits();
        atMostTenNodes();
        atMostSixteenCorridors();
        corridorJoinsDifferentNodes();
        lengthsAndWinds();
        windIsSetWithinTheLength();
        legTakesEnergyByTheWindAtItsStart();
        numbersOfFences();
        atMostTenFences();
        laterFencesMoveDown();
        struckByAnyFence();
        startLessThanTheEndOfTheFence();
        endGreaterThanTheBeginningOfTheFence();
        fenceStrikesItsLayersAlone();
        fenceStrikesBothDirections();
        flownLegIsNotStruck();
        dronesThatFlyInACorridor();
        reserveIsTheLeastEnergy();
        reserveHasNoBound();
        noReserveWithoutAPad();
        ticksHaveNoBound();
        noWayBetweenNodes();
        dronesDoNotMatterForTheNetwork();
        countsOfAllKinds();
        Checks.end();
    }

    private static void newObjectHasNoNodes() {
        Checks.noIndex("new: isPad(0)", () -> new DroneCorridors().isPad(0) ? 1 : 0);
        Checks.noIndex("new: reserve(0)", () -> new DroneCorridors().reserve(0));
        Checks.noIndex("new: ticksBetween(0, 0)", () -> new DroneCorridors().ticksBetween(0, 0));
        Checks.noIndex("new: addCorridor", () -> new DroneCorridors().addCorridor(0, 1, 1, 0));
        Checks.noIndex("new: setWind", () -> new DroneCorridors().setWind(0, 0));
        Checks.noIndex("new: addFence", () -> new DroneCorridors().addFence(0, 1, 0, 1));
        Checks.noIndex("new: removeFence", () -> new DroneCorridors().removeFence(0));
        Checks.noIndex("new: fence", () -> new DroneCorridors().fence(0, 0));
        Checks.noIndex("new: corridor", () -> new DroneCorridors().corridor(0, 0));
        Checks.noIndex("new: addDrone", () -> new DroneCorridors().addDrone(0, 1));
        Checks.noIndex("new: drone", () -> new DroneCorridors().drone(0, 0));
        Checks.noIndex("new: plan", () -> new DroneCorridors().plan(0, 0));
        Checks.noIndex("new: arrival", () -> new DroneCorridors().arrival(0, 0));
        Checks.noIndex("new: planEnergy", () -> new DroneCorridors().planEnergy(0, 0));
        Checks.noIndex("new: leg", () -> new DroneCorridors().leg(0, 0, 0));
        Checks.noIndex("new: cancel", () -> new DroneCorridors().cancel(0));
        Checks.noIndex("new: drain", () -> new DroneCorridors().drain(0, 1));
        Checks.noIndex("new: nearestPad", () -> new DroneCorridors().nearestPad(0));
        Checks.noIndex("new: placeAfter", () -> new DroneCorridors().placeAfter(0, 0));
        Checks.noIndex("new: uses", () -> new DroneCorridors().uses(0, -1));
        Checks.noIndex("new: account", () -> new DroneCorridors().account(0, 0));
        Checks.noIndex("new: describe", () -> new DroneCorridors().describe(0, -1));
        Checks.noArgument("new: read", () -> new DroneCorridors().read());
        Checks.same("new: save", new DroneCorridors().save(), 0);
        Checks.same("new: clear", new DroneCorridors().clear(), 0);
        Checks.same("new: advance", new DroneCorridors().advance(40), 0);
    }

    private static void objectsAreApart() {
        DroneCorridors x = Build.chain("pn", 2);
        x.addDrone(0, 9);
        DroneCorridors y = new DroneCorridors();
        Checks.same("another object: nodes", y.count(0), 0);
        y.addNode(false);
        y.advance(3);
        Checks.isTrue("the first object stays", x.isPad(0) && x.count(0) == 2 && x.count(4) == 0);
    }

    private static void clearOfAllThatFits() {
        DroneCorridors x = fullNetwork();
        Build.passTo(x, 10000);
        Checks.same("clear of 10 nodes", x.clear(), 10);
        for (int what = 0; what <= 8; what++) {
            Checks.same("clear of all: count " + what, x.count(what), 0);
        }
        Checks.noIndex("clear: no node", () -> x.isPad(0) ? 1 : 0);
        Checks.noIndex("clear: no corridor", () -> x.corridor(0, 0));
        Checks.noIndex("clear: no drone", () -> x.drone(0, 0));
        Checks.noIndex("clear: no fence", () -> x.fence(0, 0));
        Checks.same("clear: time passes again", x.advance(40) + x.count(4), 40);
        for (int node = 0; node < 10; node++) {
            Checks.same("clear: nodes from 0", x.addNode(false), node);
            Checks.isTrue("clear: the old pads are forgotten", !x.isPad(node));
        }
        Checks.noElement("clear: no reserve without pads", () -> x.reserve(0));
        Checks.same("clear again", x.clear(), 10);
        Checks.same("clear of nothing", x.clear(), 0);
    }

    private static DroneCorridors fullNetwork() {
        DroneCorridors x = Build.nodes("pppppppppp");
        for (int i = 0; i < 16; i++) {
            x.addCorridor(i % 10, (i + 1) % 10, 9, 0);
        }
        for (int i = 0; i < 6; i++) {
            x.addDrone(i, 200);
            x.plan(i, i + 1);
        }
        for (int i = 0; i < 10; i++) {
            x.addFence(i, 7, 0, 10000);
        }
        return x;
    }

    private static void atMostTenNodes() {
        DroneCorridors x = Build.nodes("npnnnnnnn");
        Checks.same("the tenth node", x.addNode(true), 9);
        Checks.noState("the eleventh node", () -> x.addNode(false));
        Checks.noState("the eleventh node, a pad", () -> x.addNode(true));
        Checks.same("ten nodes", x.count(0), 10);
        Checks.isTrue("the tenth one is a pad", x.isPad(9));
        Checks.isTrue("the others as they were", x.isPad(1) && !x.isPad(0) && !x.isPad(8));
        Checks.noIndex("isPad of node 10", () -> x.isPad(10) ? 1 : 0);
        Checks.noIndex("isPad of node 33", () -> x.isPad(33) ? 1 : 0);
        Checks.noIndex("isPad of the greatest number", () -> x.isPad(MOST) ? 1 : 0);
        x.undo();
        Checks.same("the tenth node again", x.addNode(false), 9);
        Checks.isTrue("which is no pad now", !x.isPad(9));
    }

    private static void atMostSixteenCorridors() {
        DroneCorridors x = Build.nodes("pnnnnnnnnn");
        for (int i = 0; i < 16; i++) {
            Checks.same("a corridor between the same nodes", x.addCorridor(0, 9, 9, 0), i);
        }
        Checks.noState("the seventeenth corridor", () -> x.addCorridor(0, 9, 9, 0));
        Checks.noIndex("the seventeenth corridor to node 10", () -> x.addCorridor(0, 10, 9, 0));
        Checks.noArgument("the seventeenth corridor of length 10", () -> x.addCorridor(0, 9, 10, 0));
        Checks.same("sixteen corridors", x.count(1), 16);
        Checks.same("the last corridor", x.corridor(15, 1), 9);
        Checks.noIndex("corridor 16", () -> x.corridor(16, 0));
        x.undo();
        Checks.same("the sixteenth corridor again", x.addCorridor(9, 0, 1, 1), 15);
        Checks.same("its first node", x.corridor(15, 0), 9);
    }

    private static void corridorJoinsDifferentNodes() {
        DroneCorridors x = Build.nodes("pnn");
        int[] outside = {LEAST, -1, 3, 10, MOST};
        for (int node : outside) {
            Checks.noIndex("a corridor from " + node, () -> x.addCorridor(node, 1, 1, 0));
            Checks.noIndex("a corridor to " + node, () -> x.addCorridor(1, node, 1, 0));
            Checks.noIndex("a corridor from and to " + node, () -> x.addCorridor(node, node, 0, 99));
        }
        for (int node = 0; node < 3; node++) {
            int same = node;
            Checks.noArgument("a corridor from " + node + " to itself", () -> x.addCorridor(same, same, 1, 0));
        }
        Checks.same("no corridor", x.count(1), 0);
        Checks.same("0 to 2", x.addCorridor(0, 2, 1, 0), 0);
        Checks.same("2 to 0", x.addCorridor(2, 0, 1, 0), 1);
        Checks.same("those refused are no changes", x.undo(), 4);
    }

    private static void lengthsAndWinds() {
        int[] lengths = {LEAST, -9, -1, 0, 1, 2, 3, 4, 5, 6, 7, 8, 9, 10, MOST};
        int[] winds = {LEAST, LEAST + 1, -10, -9, -8, -7, -6, -5, -4, -3, -2, -1, 0, 1, 2, 3, 4, 5, 6, 7, 8, 9, 10, MOST};
        for (int length : lengths) {
            for (int wind : winds) {
                DroneCorridors x = Build.nodes("pn");
                String what = "a corridor of length " + length + " with wind " + wind;
                if (length < 1 || length > 9 || wind < -length || wind > length) {
                    Checks.noArgument(what, () -> x.addCorridor(0, 1, length, wind));
                    Checks.same(what + ": none", x.count(1), 0);
                } else {
                    Checks.same(what, x.addCorridor(0, 1, length, wind), 0);
                    Checks.same(what + ": length", x.corridor(0, 2), length);
                    Checks.same(what + ": wind", x.corridor(0, 3), wind);
                    Checks.same(what + ": energy", x.corridor(0, 4), 2 * length - wind);
                    Checks.same(what + ": energy back", x.corridor(0, 5), 2 * length + wind);
                }
            }
        }
    }

    private static void windIsSetWithinTheLength() {
        for (int length = 1; length <= 9; length++) {
            DroneCorridors x = Build.chain("pn", length);
            int most = length;
            Checks.same("the greatest wind", x.setWind(0, most), 0);
            Checks.noArgument("a greater wind", () -> x.setWind(0, most + 1));
            Checks.same("the wind stays", x.corridor(0, 3), most);
            Checks.same("the least wind", x.setWind(0, -most), most);
            Checks.noArgument("a less wind", () -> x.setWind(0, -most - 1));
            Checks.noArgument("the least number", () -> x.setWind(0, LEAST));
            Checks.noArgument("the greatest number", () -> x.setWind(0, MOST));
            Checks.same("the previous wind", x.setWind(0, -most), -most);
            Checks.noIndex("no corridor, too great a wind", () -> x.setWind(1, most + 1));
            Checks.noIndex("corridor -1", () -> x.setWind(-1, 0));
            Checks.noIndex("corridor 16", () -> x.setWind(16, 0));
        }
    }

    private static void legTakesEnergyByTheWindAtItsStart() {
        DroneCorridors x = Build.chain("pnp", 3, 2);
        x.addDrone(0, 50);
        x.plan(0, 2);
        x.setWind(0, 3);
        x.setWind(1, -2);
        Checks.same("the plan stays", x.drone(0, 5), 2);
        x.advance(1);
        Checks.same("by the first wind", x.drone(0, 1), 47);
        x.setWind(0, -3);
        x.advance(2);
        Checks.same("a later wind does not matter", x.drone(0, 1), 47);
        x.advance(1);
        Checks.same("by the second wind", x.drone(0, 1), 41);
        Checks.same("the account of the legs", x.account(0, 0), 9);
        DroneCorridors y = Build.chain("pn", 3);
        y.addDrone(1, 50);
        y.plan(0, 0);
        y.setWind(0, 3);
        y.advance(1);
        Checks.same("against the wind", y.drone(0, 1), 41);
    }

    private static void numbersOfFences() {
        DroneCorridors x = Build.chain("pnn", 2, 2);
        int[] wrongLayers = {LEAST, -1, 0, 8, 9, 15, MOST};
        for (int layers : wrongLayers) {
            Checks.noArgument("a fence with layers " + layers, () -> x.addFence(0, layers, 0, 1));
            Checks.noIndex("with no corridor, too", () -> x.addFence(2, layers, 0, 1));
        }
        int[][] wrongTimes = {{-1, 1}, {LEAST, 5}, {LEAST, MOST}, {0, 0}, {5, 5}, {5, 4}, {10000, 10000}, {0, 10001},
            {10000, 10001}, {0, MOST}, {MOST, LEAST}, {0, -1}, {MOST, MOST}};
        for (int[] times : wrongTimes) {
            Checks.noArgument("a fence from " + times[0] + " to " + times[1],
                    () -> x.addFence(0, 7, times[0], times[1]));
        }
        Checks.same("no fence", x.count(3), 0);
        int[][] right = {{0, 1, 0, 1}, {1, 2, 9999, 10000}, {0, 3, 0, 10000}, {1, 4, 4711, 4712}, {0, 5, 1, 2},
            {0, 6, 2, 3}, {1, 7, 3, 9999}};
        for (int i = 0; i < right.length; i++) {
            Checks.same("a fence", x.addFence(right[i][0], right[i][1], right[i][2], right[i][3]), 0);
            for (int what = 0; what < 4; what++) {
                Checks.same("fence(" + i + ", " + what + ")", x.fence(i, what), right[i][what]);
            }
        }
        Checks.noArgument("fence(0, 4)", () -> x.fence(0, 4));
        Checks.noArgument("fence(0, least)", () -> x.fence(0, LEAST));
        Checks.noIndex("fence(7, 4)", () -> x.fence(7, 4));
        Checks.noIndex("fence(least, 0)", () -> x.fence(LEAST, 0));
        Build.passTo(x, 9999);
        Checks.same("a fence in the past", x.addFence(0, 7, 0, 1), 0);
        Checks.same("it stays until it is removed", x.count(3), 8);
    }

    private static void atMostTenFences() {
        DroneCorridors x = Build.chain("pn", 2);
        for (int i = 0; i < 10; i++) {
            x.addFence(0, 7, i, i + 1);
        }
        Checks.noState("the eleventh fence", () -> x.addFence(0, 7, 0, 1));
        Checks.noArgument("the eleventh fence without layers", () -> x.addFence(0, 0, 0, 1));
        Checks.noIndex("the eleventh fence in no corridor", () -> x.addFence(1, 0, 0, 1));
        Checks.same("ten fences", x.count(3), 10);
        Checks.same("the tenth", x.fence(9, 3), 10);
        x.removeFence(4);
        Checks.same("room for one", x.addFence(0, 1, 77, 78), 0);
        Checks.same("it is the tenth then", x.fence(9, 2), 77);
        Checks.noState("the eleventh again", () -> x.addFence(0, 7, 0, 1));
    }

    private static void laterFencesMoveDown() {
        for (int removed = 0; removed < 10; removed++) {
            DroneCorridors x = Build.chain("pnn", 2, 2);
            for (int i = 0; i < 10; i++) {
                x.addFence(i % 2, 1 + i % 7, 10 * i, 10 * i + 3);
            }
            x.removeFence(removed);
            Checks.same("nine fences", x.count(3), 9);
            for (int i = 0; i < 9; i++) {
                int was = i < removed ? i : i + 1;
                int[] want = {was % 2, 1 + was % 7, 10 * was, 10 * was + 3};
                for (int what = 0; what < 4; what++) {
                    Checks.same("without fence " + removed + ": fence(" + i + ", " + what + ")", x.fence(i, what),
                            want[what]);
                }
            }
            Checks.noIndex("fence 9", () -> x.fence(9, 0));
            Checks.noIndex("removeFence(9)", () -> x.removeFence(9));
        }
        DroneCorridors y = Build.chain("pn", 2);
        y.addFence(0, 7, 0, 1);
        Checks.noIndex("removeFence(-1)", () -> y.removeFence(-1));
        Checks.same("removeFence of the only one", y.removeFence(0), 0);
        Checks.noIndex("removeFence of none", () -> y.removeFence(0));
    }

    private static void struckByAnyFence() {
        DroneCorridors x = Build.chain("pnpp", 2, 2, 2);
        x.addDrone(0, 50);
        x.addDrone(3, 50);
        x.plan(0, 1);
        x.plan(1, 2);
        Checks.same("the first fence", x.addFence(0, 1, 0, 1), 0b01);
        Checks.same("a second one that strikes nothing", x.addFence(1, 7, 0, 1), 0b01);
        Checks.same("a third one that strikes the other", x.addFence(2, 1, 0, 1), 0b11);
        Checks.same("a fourth one that strikes again", x.addFence(0, 7, 1, 2), 0b11);
        Checks.same("removed, but struck by another one", x.removeFence(0), 0b11);
        Checks.same("removed, and struck no more", x.removeFence(2), 0b10);
        Checks.same("struck", x.struck(), 0b10);
        Checks.same("removed the one that strikes the other", x.removeFence(1), 0);
        x.addDrone(0, 50);
        x.addDrone(0, 50);
        x.addDrone(0, 50);
        x.addDrone(0, 50);
        x.plan(5, 1);
        Checks.same("the last drone", x.addFence(0, 7, 0, 100), 0b100001);
    }

    /** A leg from 5 to 9 on layer 0. */
    private static DroneCorridors legFromFiveToNine() {
        DroneCorridors x = Build.chain("pn", 4);
        x.addDrone(0, 50);
        x.addFence(0, 7, 0, 5);
        x.plan(0, 1);
        Build.legIs("from 5 to 9", x, 0, 0, 0, 0, 0, 5, 9);
        return x;
    }

    private static void startLessThanTheEndOfTheFence() {
        Checks.same("a fence that ends at the start", legFromFiveToNine().struck(), 0);
        Checks.same("a fence that ends 1 later", legFromFiveToNine().addFence(0, 7, 0, 6), 1);
        Checks.same("a fence of the first tick", legFromFiveToNine().addFence(0, 7, 5, 6), 1);
        Checks.same("a fence of the tick before", legFromFiveToNine().addFence(0, 7, 4, 5), 0);
    }

    private static void endGreaterThanTheBeginningOfTheFence() {
        Checks.same("a fence that begins at the end", legFromFiveToNine().addFence(0, 7, 9, 10000), 0);
        Checks.same("a fence that begins 1 earlier", legFromFiveToNine().addFence(0, 7, 8, 10000), 1);
        Checks.same("a fence of the last tick", legFromFiveToNine().addFence(0, 7, 8, 9), 1);
        Checks.same("a fence of the tick behind", legFromFiveToNine().addFence(0, 7, 9, 10), 0);
        Checks.same("a fence within", legFromFiveToNine().addFence(0, 7, 6, 7), 1);
        Checks.same("a fence around", legFromFiveToNine().addFence(0, 7, 0, 10000), 1);
    }

    private static void fenceStrikesItsLayersAlone() {
        for (int layer = 0; layer < 3; layer++) {
            for (int layers = 1; layers <= 7; layers++) {
                DroneCorridors x = Build.chain("pn", 2);
                x.addDrone(0, 50);
                if (layer > 0) {
                    Build.close(x, 0, (1 << layer) - 1);
                }
                x.plan(0, 1);
                Checks.same("the layer", x.leg(0, 0, 2), layer);
                Checks.same("layers " + layers + " against layer " + layer, x.addFence(0, layers, 0, 9),
                        layers >> layer & 1);
            }
        }
    }

    private static void fenceStrikesBothDirections() {
        DroneCorridors x = Build.chain("pn", 2);
        x.addDrone(0, 50);
        x.addDrone(1, 50);
        x.plan(0, 1);
        x.plan(1, 0);
        Checks.same("forth and back", x.addFence(0, 7, 0, 2), 0b11);
    }

    private static void flownLegIsNotStruck() {
        DroneCorridors x = Build.chain("pnp", 3, 2);
        x.addDrone(0, 50);
        x.plan(0, 2);
        x.addFence(0, 7, 0, 1);
        Checks.same("a leg that starts now has not started", x.struck(), 1);
        x.advance(1);
        Checks.same("a leg that is flown", x.struck(), 0);
        Checks.same("a fence over the flown leg", x.addFence(0, 7, 0, 10000), 0);
        Checks.same("a fence over the next leg", x.addFence(1, 7, 0, 10000), 1);
        x.advance(2);
        Checks.same("at its start", x.struck(), 1);
        x.advance(1);
        Checks.same("a struck leg that is flown", x.struck(), 0);
        Checks.same("it was not stopped", x.drone(0, 0), 2);
    }

    private static void dronesThatFlyInACorridor() {
        DroneCorridors x = Build.chain("pnp", 2, 2);
        for (int i = 0; i < 6; i++) {
            x.addDrone(i < 5 ? 0 : 2, 50);
        }
        for (int i = 0; i < 6; i++) {
            x.plan(i, 1);
        }
        Checks.same("before the first tick", x.corridor(0, 6) | x.corridor(1, 6), 0);
        x.advance(1);
        Checks.same("in corridor 0", x.corridor(0, 6), 0b000111);
        Checks.same("in corridor 1", x.corridor(1, 6), 0b100000);
        x.advance(1);
        Checks.same("a leg that ends now", x.corridor(0, 6) | x.corridor(1, 6), 0);
        x.advance(1);
        Checks.same("the last ones", x.corridor(0, 6), 0b011000);
        Checks.noArgument("corridor(0, 7)", () -> x.corridor(0, 7));
        Checks.noArgument("corridor(0, -1)", () -> x.corridor(0, -1));
        Checks.noIndex("corridor(2, 7)", () -> x.corridor(2, 7));
        Checks.noIndex("corridor(-1, 0)", () -> x.corridor(-1, 0));
    }

    private static void reserveIsTheLeastEnergy() {
        DroneCorridors x = Build.nodes("pnn");
        x.addCorridor(0, 1, 1, 1);
        x.addCorridor(0, 1, 9, 9);
        x.addCorridor(2, 0, 9, 9);
        x.addCorridor(1, 2, 1, 0);
        Checks.same("a pad", x.reserve(0), 0);
        Checks.same("the cheapest of two corridors", x.reserve(1), 3);
        Checks.same("over another node", x.reserve(2), 5);
        x.setWind(3, -1);
        Checks.same("with the wind", x.reserve(2), 4);
        Build.close(x, 0, 7);
        Checks.same("fences do not matter", x.reserve(1), 3);
        Checks.noIndex("reserve(3)", () -> x.reserve(3));
        Checks.noIndex("reserve(least)", () -> x.reserve(LEAST));
        Checks.noIndex("reserve(greatest)", () -> x.reserve(MOST));
    }

    private static void reserveHasNoBound() {
        DroneCorridors x = Build.chain("pnnnnnnnnn", 9, 9, 9, 9, 9, 9, 9, 9, 9);
        for (int i = 0; i < 9; i++) {
            x.setWind(i, 9);
        }
        for (int node = 0; node < 10; node++) {
            Checks.same("the reserve of node " + node, x.reserve(node), 27 * node);
        }
        x.addDrone(8, 200);
        Checks.same("a reserve greater than any energy", x.low(), 1);
    }

    private static void noReserveWithoutAPad() {
        DroneCorridors x = Build.nodes("nnpn");
        x.addCorridor(0, 1, 1, 0);
        Checks.noElement("of a node", () -> x.reserve(0));
        Checks.noElement("of its neighbour", () -> x.reserve(1));
        Checks.noElement("of a node without corridors", () -> x.reserve(3));
        Checks.same("of a pad without corridors", x.reserve(2), 0);
        Checks.noIndex("of no node", () -> x.reserve(4));
        x.addCorridor(1, 2, 1, 0);
        Checks.same("by a new corridor", x.reserve(0), 4);
        Checks.noElement("of the node still without corridors", () -> x.reserve(3));
    }

    private static void ticksHaveNoBound() {
        DroneCorridors x = Build.chain("nnnnnnnnnn", 9, 9, 9, 9, 9, 9, 9, 9, 9);
        for (int from = 0; from < 10; from++) {
            for (int to = 0; to < 10; to++) {
                Checks.same("from " + from + " to " + to, x.ticksBetween(from, to), 9 * Math.abs(from - to));
            }
        }
        x.addCorridor(0, 9, 1, -1);
        Checks.same("the other way round", x.ticksBetween(0, 8), 10);
        Checks.same("the same node", x.ticksBetween(9, 9), 0);
    }

    private static void noWayBetweenNodes() {
        DroneCorridors x = Build.chain("pnn", 1);
        Checks.noElement("no way", () -> x.ticksBetween(0, 2));
        Checks.noElement("no way back", () -> x.ticksBetween(2, 0));
        Checks.same("from a node without corridors to itself", x.ticksBetween(2, 2), 0);
        int[] outside = {LEAST, -1, 3, 32, MOST};
        for (int node : outside) {
            Checks.noIndex("from " + node, () -> x.ticksBetween(node, 0));
            Checks.noIndex("to " + node, () -> x.ticksBetween(0, node));
            Checks.noIndex("from and to " + node, () -> x.ticksBetween(node, node));
        }
    }

    private static void dronesDoNotMatterForTheNetwork() {
        DroneCorridors x = Build.chain("pn", 3);
        for (int i = 0; i < 6; i++) {
            x.addDrone(i % 2, 100);
            x.plan(i, 1 - i % 2);
        }
        for (int tick = 0; tick < 9; tick++) {
            Checks.same("the reserve while drones fly", x.reserve(1), 6);
            Checks.same("the ticks while drones fly", x.ticksBetween(1, 0), 3);
            x.advance(1);
        }
    }

    private static void countsOfAllKinds() {
        DroneCorridors x = Build.chain("pn", 3);
        x.addDrone(0, 50);
        x.addDrone(1, 2);
        x.addDrone(0, 50);
        x.plan(0, 1);
        int[][] states = {{2, 1, 0, 0}, {1, 1, 1, 0}, {1, 0, 1, 1}, {1, 1, 0, 1}};
        for (int time = 0; time < 4; time++) {
            for (int state = 0; state < 4; state++) {
                Checks.same("at " + time + ": count(" + (5 + state) + ")", x.count(5 + state), states[time][state]);
            }
            Checks.same("the time", x.count(4), time);
            x.advance(1);
        }
        Checks.noArgument("count(-1)", () -> x.count(-1));
        Checks.noArgument("count(9)", () -> x.count(9));
        Checks.noArgument("count(least)", () -> x.count(LEAST));
        Checks.noArgument("count(greatest)", () -> x.count(MOST));
    }
}
