/** Promises 16 to 19, 22 to 24 and 26: plans, their legs, struck drones, reroutes, nearest pads and reasons. */
public final class PlanTest {
    public static void main(String[] arguments) {
        best();
        ties();
        startsAndLayers();
        separation();
        reservesHold();
        horizon();
        whileFlying();
        atTheNode();
        replacing();
        refused();
        reasons();
        legs();
        fallbacks();
        reroutesInOrder();
        nearest();
        Checks.end();
    }

    private static DroneCorridors nodes(String kinds) {
        DroneCorridors x = new DroneCorridors();
        for (int i = 0; i < kinds.length(); i++) {
            x.addNode(kinds.charAt(i) == 'p');
        }
        return x;
    }

    private static void legIs(String what, DroneCorridors x, int drone, int index, int... want) {
        for (int i = 0; i < want.length; i++) {
            Checks.same(what + ": leg(" + drone + ", " + index + ", " + i + ")", x.leg(drone, index, i), want[i]);
        }
    }

    private static void best() {
        DroneCorridors x = nodes("pnp");
        x.addCorridor(0, 2, 5, 5);
        x.addCorridor(0, 1, 2, 0);
        x.addCorridor(2, 1, 2, -2);
        x.addDrone(0, 60);
        Checks.same("the earliest before the cheapest", x.arrival(0, 2), 4);
        Checks.same("its energy", x.planEnergy(0, 2), 6);
        Checks.same("plan", x.plan(0, 2), 4);
        legIs("earliest", x, 0, 0, 1, 0, 0, 0, 2);
        legIs("earliest", x, 0, 1, 2, 1, 0, 2, 4);
        x.addCorridor(0, 2, 4, 4);
        Checks.same("the cheapest of the earliest", x.planEnergy(0, 2), 4);
        x.plan(0, 2);
        legIs("cheapest", x, 0, 0, 3, 0, 0, 0, 4);
        Checks.same("one leg", x.drone(0, 5), 1);
    }

    private static void ties() {
        DroneCorridors x = nodes("pnp");
        x.addCorridor(0, 1, 1, 0);
        x.addCorridor(1, 2, 2, 0);
        x.addCorridor(0, 1, 1, 0);
        x.addCorridor(1, 2, 2, 0);
        x.addDrone(0, 60);
        x.plan(0, 2);
        legIs("lower corridors", x, 0, 1, 1, 0, 0, 1, 3);
        legIs("lower corridors", x, 0, 0, 0, 0, 0, 0, 1);
        x.addFence(1, 1, 0, 3);
        x.plan(0, 2);
        legIs("lower layer before lower corridor", x, 0, 1, 3, 0, 0, 1, 3);
        x.addFence(3, 1, 0, 3);
        x.plan(0, 2);
        legIs("lower corridor on layer 1", x, 0, 1, 1, 0, 1, 1, 3);
        legIs("lower layer of the leg before", x, 0, 0, 0, 0, 0, 0, 1);

        // With the wind at its length, flying takes no more than hovering, so waits and circles are alike.
        DroneCorridors y = nodes("nnp");
        y.addCorridor(0, 1, 1, 1);
        y.addCorridor(1, 2, 2, 2);
        y.addDrone(0, 60);
        y.addFence(1, 7, 0, 4);
        y.plan(0, 2);
        legIs("the later start", y, 0, 0, 0, 0, 0, 3, 4);
        legIs("the later start", y, 0, 1, 1, 0, 0, 4, 6);

        DroneCorridors z = nodes("nnp");
        z.addCorridor(1, 2, 2, 2);
        z.addCorridor(0, 1, 1, 1);
        z.addCorridor(0, 1, 1, -1);
        z.addCorridor(1, 0, 1, 1);
        z.addDrone(1, 60);
        z.addFence(0, 7, 0, 4);
        z.plan(0, 2);
        Checks.same("no leg before it is better than a circle", z.drone(0, 5), 1);
        legIs("waiting", z, 0, 0, 0, 0, 0, 4, 6);
    }

    private static void startsAndLayers() {
        DroneCorridors x = nodes("pnn");
        x.addCorridor(0, 1, 2, 0);
        x.addCorridor(1, 2, 2, 0);
        x.addDrone(0, 60);
        x.addDrone(1, 60);
        x.addFence(0, 7, 0, 3);
        x.addFence(1, 3, 0, 20);
        Checks.same("a landed one waits for nothing", x.planEnergy(0, 1), 4);
        Checks.same("behind the fence", x.arrival(0, 1), 5);
        Checks.same("a hovering one takes energy for waiting", x.planEnergy(1, 0), 7);
        Checks.same("two layers up", x.planEnergy(0, 2), 10);
        x.plan(0, 2);
        legIs("up at once or later is alike", x, 0, 0, 0, 0, 0, 3, 5);
        legIs("up", x, 0, 1, 1, 0, 2, 5, 7);
        x.removeFence(0);
        x.addFence(0, 7, 1, 2);
        Checks.same("planEnergy from a node over layers", x.planEnergy(1, 2), 6);
        x.plan(1, 2);
        x.advance(2);
        Checks.same("the layer of the leg", x.drone(1, 2), 2);
        Checks.same("the change was taken", x.account(1, 1), 2);
        Checks.same("on layer 2 all the way back", x.planEnergy(1, 0), 8);
        x.cancel(0);
        x.addFence(0, 6, 0, 100);
        Checks.same("from layer 2 down to layer 0", x.planEnergy(1, 0), 10);
    }

    private static void separation() {
        DroneCorridors x = nodes("pp");
        x.addCorridor(0, 1, 3, 0);
        x.addFence(0, 6, 0, 10000);
        x.addDrone(0, 60);
        x.addDrone(0, 60);
        x.addDrone(1, 60);
        x.addDrone(0, 60);
        Checks.same("the first", x.plan(0, 1), 3);
        Checks.same("2 behind", x.plan(1, 1), 5);
        Checks.same("the opposite one behind both", x.plan(2, 0), 8);
        Checks.same("2 behind, before the opposite one there is no room", x.plan(3, 1), 11);
        x.cancel(0);
        Checks.same("2 before needs no earlier leg", x.plan(3, 1), 3);
        x.cancel(1);
        x.cancel(3);
        Checks.same("before the opposite one", x.plan(3, 1), 3);
        Checks.same("own legs do not matter", x.plan(2, 0), 6);
        x.advance(3);
        Checks.same("a leg that ends now is past", x.arrival(0, 1), 9);
        x.cancel(2);
        Checks.same("now it is free", x.arrival(0, 1), 6);
        x.plan(0, 1);
        x.advance(1);
        Checks.same("the leg in which a drone flies does matter", x.arrival(1, 1), 8);
        Checks.same("for the opposite one, too", x.arrival(2, 0), 9);
    }

    private static void reservesHold() {
        DroneCorridors x = nodes("pnnp");
        x.addCorridor(0, 1, 4, 0);
        x.addCorridor(1, 2, 3, 0);
        x.addCorridor(1, 3, 5, 5);
        x.addDrone(0, 13);
        x.addDrone(0, 12);
        x.addDrone(0, 24);
        x.addDrone(0, 25);
        Checks.same("exactly the reserve is left", x.arrival(0, 1), 4);
        Checks.noElement("less than the reserve is left", () -> x.arrival(1, 1));
        Checks.noElement("less than the reserve behind the second leg", () -> x.arrival(2, 2));
        Checks.same("exactly the reserve behind the second leg", x.arrival(3, 2), 7);
        Checks.same("a pad has the reserve 0", x.arrival(0, 3), 9);
        Checks.same("down to 0", x.planEnergy(0, 3), 13);
        x.setWind(2, 4);
        Checks.noElement("the reserve by the wind now", () -> x.arrival(0, 1));
        Checks.noElement("the reserve on the way", () -> x.arrival(0, 3));
    }

    private static void horizon() {
        DroneCorridors x = nodes("pn");
        x.addCorridor(0, 1, 9, 0);
        x.addDrone(0, 100);
        x.addDrone(1, 100);
        x.addFence(0, 7, 0, 31);
        Checks.same("up to 40 ticks", x.plan(0, 1), 40);
        Checks.same("hovering for 31 ticks", x.planEnergy(1, 0), 50);
        x.removeFence(0);
        x.addFence(0, 7, 0, 32);
        Checks.noElement("beyond 40 ticks", () -> x.arrival(0, 1));
        x.advance(1);
        Checks.same("a tick later", x.arrival(0, 1), 41);
        DroneCorridors y = nodes("pnp");
        y.addCorridor(0, 1, 9, 0);
        y.addCorridor(1, 2, 1, 0);
        y.addDrone(0, 100);
        y.plan(0, 1);
        y.advance(1);
        y.addFence(1, 7, 0, 40);
        Checks.same("40 ticks from the present time while it flies", y.arrival(0, 2), 41);
        y.addFence(1, 7, 40, 41);
        Checks.noElement("no more than these", () -> y.arrival(0, 2));
    }

    private static void whileFlying() {
        DroneCorridors x = nodes("pnpn");
        x.addCorridor(0, 1, 3, 0);
        x.addCorridor(1, 2, 2, 0);
        x.addCorridor(1, 3, 1, 0);
        x.addDrone(0, 60);
        x.addDrone(0, 60);
        x.plan(1, 2);
        x.plan(0, 2);
        x.advance(1);
        Checks.same("planned from the end of its leg on", x.plan(0, 3), 4);
        Checks.same("two legs", x.drone(0, 5), 2);
        legIs("the leg in which it flies stays", x, 0, 0, 0, 0, 1, 0, 3);
        legIs("the new leg", x, 0, 1, 2, 0, 1, 3, 4);
        Checks.same("the energy from then on", x.planEnergy(0, 3), 2);
        Checks.same("to the end of its leg", x.arrival(0, 1), 3);
        Checks.same("without energy", x.planEnergy(0, 1), 0);
        Checks.same("plan to the end of its leg", x.plan(0, 1), 3);
        Checks.same("one leg", x.drone(0, 5), 1);
        Checks.same("destination", x.drone(0, 4), 1);
        Checks.same("back, hovering for nothing", x.plan(0, 0), 6);
        legIs("back", x, 0, 1, 0, 1, 1, 3, 6);
        x.addFence(0, 7, 0, 5);
        Checks.same("waiting at the end of its leg takes energy", x.planEnergy(0, 0), 8);
    }

    private static void atTheNode() {
        DroneCorridors x = nodes("pnpn");
        x.addCorridor(0, 1, 2, 0);
        x.addCorridor(1, 2, 2, 0);
        x.addDrone(0, 60);
        x.addDrone(1, 60);
        x.addDrone(3, 60);
        Checks.same("at the node already", x.plan(0, 0), 0);
        Checks.same("destination", x.drone(0, 4), 0);
        Checks.same("still landed", x.drone(0, 0), 0);
        Checks.same("at a node that is no pad", x.plan(1, 1), 0);
        Checks.same("still hovering", x.drone(1, 0), 1);
        Checks.same("at a node without a reserve", x.plan(2, 3), 0);
        Checks.same("its destination", x.drone(2, 4), 3);
        Checks.same("no energy", x.planEnergy(2, 3), 0);
        x.plan(0, 1);
        Checks.same("to where it is", x.plan(0, 0), 0);
        Checks.same("its legs are gone", x.drone(0, 5), 0);

        // It waits at pad 2 on its way to 3, on layer 1, and is planned to the pad then.
        DroneCorridors y = nodes("pnpn");
        y.addCorridor(0, 2, 2, 0);
        y.addCorridor(2, 3, 2, 0);
        y.addDrone(0, 60);
        y.addFence(0, 1, 0, 100);
        y.addFence(0, 6, 3, 100);
        y.addFence(1, 7, 0, 9);
        y.addFence(0, 7, 2, 3);
        y.plan(0, 3);
        y.advance(4);
        Checks.same("it hovers at the pad", y.drone(0, 0), 1);
        Checks.same("on layer 1", y.drone(0, 2), 1);
        Checks.same("it lost energy for that", y.drone(0, 1), 60 - 1 - 4 - 2);
        Checks.same("plan there", y.plan(0, 2), 4);
        Checks.same("it lands at once", y.drone(0, 0), 0);
        Checks.same("on layer 0", y.drone(0, 2), 0);
        Checks.same("without energy for it", y.account(0, 1), 1);
        Checks.same("its legs are gone", y.drone(0, 5), 0);
        y.advance(1);
        Checks.same("it gains", y.account(0, 3), 3);
    }

    private static void replacing() {
        DroneCorridors x = nodes("pnn");
        x.addCorridor(0, 1, 3, 0);
        x.addCorridor(0, 2, 4, 0);
        x.addDrone(0, 60);
        x.plan(0, 1);
        x.plan(0, 2);
        Checks.same("one plan", x.drone(0, 5), 1);
        legIs("the new plan", x, 0, 0, 1, 0, 0, 0, 4);
        Checks.same("no use of the old one", x.uses(0, -1), 0);
        x.addDrone(0, 1);
        Checks.noPlan("refused", () -> x.plan(1, 1));
        Checks.same("no destination", x.drone(1, 4), -1);
        x.drain(0, 50);
        Checks.noPlan("refused", () -> x.plan(0, 1));
        Checks.same("the earlier plan stays", x.drone(0, 5), 1);
        Checks.same("its destination stays", x.drone(0, 4), 2);
    }

    private static void refused() {
        DroneCorridors x = nodes("pn");
        x.addCorridor(0, 1, 3, 0);
        x.addDrone(0, 60);
        x.addDrone(1, 1);
        x.advance(1);
        Checks.noIndex("plan of no drone", () -> x.plan(2, 0));
        Checks.noIndex("plan of drone -1", () -> x.plan(-1, 0));
        Checks.noIndex("plan to no node", () -> x.plan(0, 2));
        Checks.noIndex("plan of a lost one to no node", () -> x.plan(1, -1));
        Checks.noPlan("plan of a lost one", () -> x.plan(1, 1));
        Checks.noIndex("arrival of no drone", () -> x.arrival(2, 0));
        Checks.noIndex("arrival at no node", () -> x.arrival(0, -1));
        Checks.noElement("arrival of a lost one", () -> x.arrival(1, 1));
        Checks.noIndex("planEnergy of no drone", () -> x.planEnergy(-1, 0));
        Checks.noIndex("planEnergy to no node", () -> x.planEnergy(0, 2));
        Checks.noElement("planEnergy of a lost one", () -> x.planEnergy(1, 1));
        Checks.noIndex("nearestPad of no drone", () -> x.nearestPad(2));
        Checks.noIndex("nearestPad of drone -1", () -> x.nearestPad(-1));
        Checks.noElement("nearestPad of a lost one", () -> x.nearestPad(1));
    }

    private static void reasons() {
        DroneCorridors x = nodes("pnn");
        x.addCorridor(0, 1, 3, 0);
        x.addDrone(0, 60);
        x.addDrone(1, 1);
        x.addDrone(0, 60);
        x.addDrone(0, 11);
        Checks.noElement("no reason yet", x::reason);
        Checks.noPlan("to a node without a reserve", () -> x.plan(0, 2));
        Checks.same("reason", x.reason(), 2);
        Checks.noPlan("with too little energy", () -> x.plan(3, 1));
        Checks.same("reason", x.reason(), 3);
        x.plan(0, 1);
        Checks.same("a plan that is made keeps the reason", x.reason(), 3);
        Checks.noElement("arrival", () -> x.arrival(0, 2));
        Checks.same("arrival keeps the reason", x.reason(), 3);
        x.addFence(0, 7, 1, 50);
        Checks.noPlan("with a fence", () -> x.plan(2, 1));
        Checks.same("reason", x.reason(), 4);
        x.addFence(0, 6, 0, 100);
        x.removeFence(0);
        x.addFence(0, 1, 4, 50);
        Checks.noPlan("with a fence and another drone", () -> x.plan(2, 1));
        Checks.same("reason", x.reason(), 5);
        x.undo();
        Checks.same("undo keeps the reason", x.reason(), 5);
        x.advance(1);
        Checks.noPlan("a lost one, to a node without a reserve", () -> x.plan(1, 2));
        Checks.same("reason", x.reason(), 1);
        x.save();
        Checks.noPlan("to a node without a reserve", () -> x.plan(0, 2));
        x.restore();
        Checks.same("restore keeps the reason", x.reason(), 2);
    }

    private static void legs() {
        DroneCorridors x = nodes("pnp");
        x.addCorridor(1, 0, 3, 0);
        x.addCorridor(1, 2, 2, 0);
        x.addDrone(0, 60);
        x.plan(0, 2);
        legIs("first", x, 0, 0, 0, 1, 0, 0, 3);
        legIs("second", x, 0, 1, 1, 0, 0, 3, 5);
        Checks.noIndex("leg(0, 2, 0)", () -> x.leg(0, 2, 0));
        Checks.noIndex("leg(0, -1, 9)", () -> x.leg(0, -1, 9));
        Checks.noIndex("leg(1, 0, 0)", () -> x.leg(1, 0, 0));
        Checks.noIndex("leg(-1, 0, 9)", () -> x.leg(-1, 0, 9));
        Checks.noArgument("leg(0, 0, 5)", () -> x.leg(0, 0, 5));
        Checks.noArgument("leg(0, 0, -1)", () -> x.leg(0, 0, -1));
        x.advance(2);
        legIs("still flown", x, 0, 0, 0, 1, 0, 0, 3);
        x.advance(1);
        legIs("the first has ended", x, 0, 0, 1, 0, 0, 3, 5);
        Checks.noIndex("leg(0, 1, 0)", () -> x.leg(0, 1, 0));
    }

    private static void fallbacks() {
        DroneCorridors x = nodes("npppn");
        x.addCorridor(0, 4, 2, 0);
        x.addCorridor(0, 3, 3, 0);
        x.addCorridor(0, 2, 2, 0);
        x.addCorridor(0, 1, 2, 0);
        x.addDrone(0, 60);
        x.addDrone(1, 60);
        x.addDrone(0, 60);
        x.addDrone(0, 60);
        x.plan(0, 4);
        x.plan(2, 3);
        x.plan(1, 4);
        Checks.same("struck by nothing", x.struck(), 0);
        Checks.same("reroute of none", x.reroute(), 0);
        Checks.same("the fence strikes two", x.addFence(0, 7, 0, 100), 0b11);
        Checks.same("none of both keeps its destination", x.reroute(), 0);
        Checks.same("the lowest of the earliest pads", x.drone(0, 4), 1);
        Checks.same("its leg", x.leg(0, 0, 0), 3);
        Checks.same("at a pad already", x.drone(1, 4), 1);
        Checks.same("without legs", x.drone(1, 5), 0);
        Checks.same("still landed", x.drone(1, 0), 0);
        Checks.same("the one that is not struck", x.drone(2, 4), 3);
        Checks.same("struck no more", x.struck(), 0);
        x.addFence(3, 7, 0, 100);
        x.addFence(2, 7, 0, 5);
        x.addFence(1, 7, 0, 1);
        Checks.same("later is as good for a destination", x.reroute(), 1);
        Checks.same("the earliest pad", x.drone(0, 4), 3);
        Checks.same("its end", x.drone(0, 6), 4);
        Checks.same("the next one keeps its destination", x.drone(2, 4), 3);
        x.addFence(1, 7, 0, 100);
        x.addFence(2, 7, 0, 100);
        Checks.same("struck", x.struck(), 0b101);
        Checks.same("reroute of those that cannot go anywhere", x.reroute(), 0);
        for (int drone = 0; drone < 3; drone += 2) {
            Checks.same("no destination", x.drone(drone, 4), -1);
            Checks.same("no legs", x.drone(drone, 5), 0);
            Checks.same("hovering", x.drone(drone, 0), 1);
        }
        hangingInTheAir();
    }

    /** Rerouted while they fly, or while they hover at a pad. */
    private static void hangingInTheAir() {
        DroneCorridors x = nodes("pnp");
        x.addCorridor(0, 1, 3, 0);
        x.addCorridor(1, 2, 2, 0);
        x.addDrone(0, 60);
        x.plan(0, 2);
        x.advance(1);
        x.addFence(1, 7, 0, 100);
        x.addFence(0, 7, 0, 100);
        Checks.same("struck", x.struck(), 1);
        Checks.same("reroute", x.reroute(), 0);
        Checks.same("it flies on", x.drone(0, 0), 2);
        Checks.same("in its leg alone", x.drone(0, 5), 1);
        Checks.same("without a destination", x.drone(0, 4), -1);
        x.advance(2);
        Checks.same("and hovers then", x.drone(0, 0), 1);

        DroneCorridors y = nodes("pnpn");
        y.addCorridor(0, 2, 2, 0);
        y.addCorridor(2, 3, 2, 0);
        y.addDrone(0, 60);
        y.addFence(1, 7, 0, 9);
        y.addFence(0, 7, 2, 100);
        y.plan(0, 3);
        y.advance(1);
        y.save();
        y.addFence(1, 7, 0, 100);
        Checks.same("reroute of one that flies to a pad", y.reroute(), 0);
        Checks.same("the pad is its destination", y.drone(0, 4), 2);
        Checks.same("it lands", y.advance(1), 1);
        y.restore();
        y.advance(7);
        Checks.same("hovering at the pad", y.drone(0, 0), 1);
        y.addFence(1, 7, 0, 100);
        Checks.same("reroute of one that hovers at a pad", y.reroute(), 0);
        Checks.same("the pad is its destination", y.drone(0, 4), 2);
        Checks.same("it has landed", y.drone(0, 0), 0);
    }

    private static void reroutesInOrder() {
        DroneCorridors x = nodes("pn");
        x.addCorridor(0, 1, 2, 0);
        x.addFence(0, 6, 0, 10000);
        x.addDrone(0, 60);
        x.addDrone(0, 60);
        x.addDrone(0, 60);
        x.plan(0, 1);
        x.plan(1, 1);
        x.plan(2, 1);
        Checks.same("starts", x.leg(1, 0, 3) * 10 + x.leg(2, 0, 3), 24);
        x.addFence(0, 1, 0, 3);
        Checks.same("struck", x.struck(), 0b11);
        Checks.same("both keep their destination", x.reroute(), 2);
        Checks.same("the first one passes the legs behind it", x.leg(0, 0, 3), 6);
        Checks.same("the second one the leg of the first", x.leg(1, 0, 3), 8);
        Checks.same("the third one stays", x.leg(2, 0, 3), 4);
        Checks.same("all separated", x.pairs(true) * 10 + x.pairs(false), 30);

        // The leg of the second one, still struck, counts while the first one is planned.
        DroneCorridors y = nodes("pnn");
        y.addCorridor(0, 1, 2, 0);
        y.addCorridor(1, 2, 1, 0);
        y.addFence(0, 6, 0, 10000);
        y.addFence(0, 1, 0, 3);
        y.addDrone(0, 60);
        y.addDrone(0, 60);
        y.plan(1, 2);
        Checks.same("the second one starts at 3", y.leg(1, 0, 3), 3);
        y.plan(0, 1);
        Checks.same("the first one starts at 5", y.leg(0, 0, 3), 5);
        y.addFence(1, 7, 5, 6);
        y.addFence(0, 1, 6, 7);
        Checks.same("both are struck", y.struck(), 0b11);
        Checks.same("reroute", y.reroute(), 2);
        Checks.same("the first one not at 3 or 4", y.leg(0, 0, 3), 7);
        Checks.same("the second one", y.leg(1, 0, 3), 4);
    }

    private static void nearest() {
        DroneCorridors x = nodes("npppp");
        x.addCorridor(0, 4, 1, 0);
        x.addCorridor(0, 3, 2, 0);
        x.addCorridor(0, 2, 2, 0);
        x.addCorridor(0, 1, 3, 0);
        x.addDrone(0, 60);
        x.addDrone(3, 60);
        Checks.same("the nearest", x.nearestPad(0), 4);
        x.addFence(0, 7, 0, 2);
        Checks.same("the lowest of the nearest", x.nearestPad(0), 2);
        x.drain(0, 57);
        Checks.noElement("with energy for waiting and no more, or the wind", () -> x.nearestPad(0));
        x.setWind(1, 1);
        Checks.same("with the energy 3", x.nearestPad(0), 3);
        Checks.same("a landed one", x.nearestPad(1), 3);
        x.plan(1, 0);
        x.advance(1);
        Checks.same("a flying one", x.nearestPad(1), 4);
        DroneCorridors y = nodes("pn");
        y.addCorridor(0, 1, 3, 0);
        y.addDrone(0, 60);
        y.addDrone(1, 60);
        y.plan(1, 0);
        y.advance(1);
        Checks.same("one that flies to the pad", y.nearestPad(1), 0);
        y.clear();
        y.addNode(false);
        y.addDrone(0, 60);
        Checks.noElement("no pad at all", () -> y.nearestPad(0));
    }
}
