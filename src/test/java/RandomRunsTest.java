import java.util.NoSuchElementException;

/** Long runs of calls by fixed rows of numbers, compared with a scene in which the document is done over again. */
public final class RandomRunsTest {
    private static final int RUNS = 400;
    private static final int CALLS = 120;

    private static long row;
    private static int plans;
    private static int reroutes;
    private static final int[] reasons = new int[6];

    public static void main(String[] arguments) {
        for (int run = 0; run < RUNS && Checks.wrong() == 0; run++) {
            row = 1000003L * run + 17;
            oneRun(run);
        }
        System.out.println(plans + " plans compared, " + reroutes + " reroutes, " + Scene.tried + " tried, "
                + Scene.grown + " grown, reasons " + java.util.Arrays.toString(reasons));
        Checks.isTrue("enough plans were compared", plans > 3000 && reroutes > 200);
        for (int reason = 1; reason <= 5; reason++) {
            Checks.isTrue("reason " + reason + " was met", reasons[reason] > 0);
        }
        Checks.end();
    }

    private static int next(int bound) {
        row = row * 6364136223846793005L + 1442695040888963407L;
        return (int) ((row >>> 33) % bound);
    }

    private static DroneCorridors network() {
        DroneCorridors x = new DroneCorridors();
        boolean isBig = next(3) == 0;
        int nodes = isBig ? 5 + next(6) : 2 + next(4);
        for (int node = 0; node < nodes; node++) {
            x.addNode(next(isBig ? 4 : 2) == 0);
        }
        int corridors = Math.min(16, nodes - 1 + next(isBig ? 8 : 4));
        int longest = 1 + next(9);
        for (int i = 0; i < corridors; i++) {
            int first = i < nodes - 1 && next(8) > 0 ? i + 1 : next(nodes);
            int second = (first + 1 + next(nodes - 1)) % nodes;
            int length = 1 + next(longest);
            int wind = next(3) == 0 ? length : next(3) == 0 ? -length : next(2 * length + 1) - length;
            x.addCorridor(first, second, length, wind);
        }
        for (int i = isBig ? 6 : 1 + next(6); i > 0; i--) {
            x.addDrone(next(nodes), 1 + next(next(3) == 0 ? 60 : 200));
        }
        // In every other network all drones meet on one or two layers.
        int closed = new int[] {0, 0, 4, 6}[next(4)];
        for (int i = 0; i < corridors && i < 10 && closed != 0; i++) {
            x.addFence(i, closed, 0, 10000);
        }
        return x;
    }

    private static void oneRun(int run) {
        DroneCorridors x = network();
        for (int call = 0; call < CALLS && Checks.wrong() == 0; call++) {
            String what = "run " + run + ", call " + call + ": ";
            Scene scene = Scene.of(x);
            oneCall(what, x, scene);
            Checks.same(what + "audit", x.audit(), 0);
            Checks.same(what + "legs that are not separated", x.pairs(false), 0);
        }
    }

    private static void oneCall(String what, DroneCorridors x, Scene scene) {
        int drone = next(x.count(2));
        int node = next(x.count(0));
        int corridor = x.count(1) == 0 ? -1 : next(x.count(1));
        switch (next(14)) {
            case 0:
            case 1:
            case 2:
                plan(what + "plan(" + drone + ", " + node + ")", x, scene, drone, node);
                break;
            case 3:
                ask(what, x, scene, drone, node);
                break;
            case 4:
            case 5:
                advance(what, x, scene, 1 + next(next(4) == 0 ? 12 : 4));
                break;
            case 6:
            case 7:
                fence(what, x, drone, corridor);
                break;
            case 8:
                if (x.count(3) > 0 && next(3) > 0) {
                    x.removeFence(next(x.count(3)));
                    Checks.same(what + "struck", x.struck(), Scene.of(x).struck());
                }
                break;
            case 9:
            case 10:
                reroute(what, x, scene);
                break;
            case 11:
                small(what, x, scene, drone);
                break;
            case 12:
                if (corridor >= 0) {
                    int length = x.corridor(corridor, 2);
                    x.setWind(corridor, next(2) == 0 ? length : next(2 * length + 1) - length);
                }
                break;
            default:
                back(what, x);
        }
    }

    private static void plan(String what, DroneCorridors x, Scene scene, int drone, int node) {
        int answer;
        try {
            answer = x.plan(drone, node);
        } catch (UnsupportedOperationException e) {
            answer = -1;
        }
        Scene.Plan want = scene.plan(drone, node, true, true);
        plans++;
        Checks.same(what, answer, want == null ? -1 : want.arrival);
        if (want == null) {
            reasons[x.reason()]++;
            Checks.same(what + ": reason", x.reason(), scene.reason(drone, node));
        } else {
            scene.take(drone, want, node);
        }
        Checks.sameLook(what, Scene.of(x).text(), scene.text());
    }

    private static void ask(String what, DroneCorridors x, Scene scene, int drone, int node) {
        Checks.same(what + "low", x.low(), scene.low());
        Checks.same(what + "pairs", x.pairs(true), scene.pairs(true));
        Checks.same(what + "struck", x.struck(), scene.struck());
        int reserve;
        try {
            reserve = x.reserve(node);
        } catch (NoSuchElementException e) {
            reserve = -1;
        }
        Checks.same(what + "reserve", reserve, scene.reserves()[node]);
        int other = next(x.count(0));
        int ticks;
        try {
            ticks = x.ticksBetween(node, other);
        } catch (NoSuchElementException e) {
            ticks = 100000;
        }
        Checks.same(what + "ticksBetween", ticks, scene.distances(true)[node][other]);
        int energy;
        try {
            energy = x.planEnergy(drone, node);
        } catch (NoSuchElementException e) {
            energy = -1;
        }
        Scene.Plan want = scene.plan(drone, node, true, true);
        Checks.same(what + "planEnergy", energy, want == null ? -1 : want.energy);
        int pad;
        try {
            pad = x.nearestPad(drone);
        } catch (NoSuchElementException e) {
            pad = -1;
        }
        Checks.same(what + "nearestPad", pad, scene.nearestPad(drone));
    }

    private static void advance(String what, DroneCorridors x, Scene scene, int ticks) {
        int[] places = new int[x.count(2)];
        for (int drone = 0; drone < places.length; drone++) {
            places[drone] = x.placeAfter(drone, ticks);
        }
        Checks.same(what + "advance(" + ticks + ")", x.advance(ticks), scene.advance(ticks));
        Checks.sameLook(what + "advance(" + ticks + ")", Scene.of(x).text(), scene.text());
        for (int drone = 0; drone < places.length; drone++) {
            Checks.same(what + "placeAfter of " + drone, places[drone], scene.place(drone));
        }
    }

    /** Adds a fence, most often one that strikes a leg, and takes one away where there are ten. */
    private static void fence(String what, DroneCorridors x, int drone, int corridor) {
        if (corridor < 0) {
            return;
        }
        if (x.count(3) >= 10) {
            x.removeFence(5 + next(5));
        }
        int beginning = Math.max(0, x.count(4) + next(12) - 4);
        int layers = 1 + next(7);
        int used = corridor;
        if (next(4) > 0 && x.drone(drone, 5) > 0) {
            int leg = next(x.drone(drone, 5));
            used = x.leg(drone, leg, 0);
            layers |= 1 << x.leg(drone, leg, 2);
            beginning = x.leg(drone, leg, 3) + next(3);
        }
        int struck = x.addFence(used, layers, beginning, beginning + 1 + next(next(3) == 0 ? 40 : 8));
        Checks.same(what + "addFence", struck, Scene.of(x).struck());
    }

    private static void reroute(String what, DroneCorridors x, Scene scene) {
        if (x.struck() != 0) {
            reroutes++;
        }
        int kept = x.reroute();
        Checks.same(what + "reroute", kept, scene.reroute());
        Checks.sameLook(what + "reroute", Scene.of(x).text(), scene.text());
    }

    private static void small(String what, DroneCorridors x, Scene scene, int drone) {
        if (next(3) == 0) {
            x.cancel(drone);
            scene.cancel(drone);
        } else if (x.drone(drone, 0) != 3) {
            int energy = 1 + next(next(3) == 0 ? 60 : 6);
            x.drain(drone, energy);
            scene.drain(drone, energy);
        }
        Checks.sameLook(what + "cancel or drain", Scene.of(x).text(), scene.text());
    }

    private static void back(String what, DroneCorridors x) {
        String now = Checks.look(x);
        switch (next(3)) {
            case 0:
                x.save();
                x.advance(1 + next(9));
                x.restore();
                Checks.sameLook(what + "restore", Checks.look(x), now);
                break;
            case 1:
                x.advance(1 + next(9));
                x.undo();
                Checks.sameLook(what + "undo", Checks.look(x), now);
                break;
            default:
                x.reroute();
                x.undo();
                Checks.sameLook(what + "undo of reroute", Checks.look(x), now);
        }
    }
}
