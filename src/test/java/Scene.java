import java.util.ArrayList;
import java.util.List;

/**
 * What the document says, done over again in the plainest way: plans by trying all of them, or, where these are too
 * many, by growing whole plans tick by tick; ticks drone by drone.
 * A scene is read from an object by its face, changed here, and compared with what the object became.
 */
final class Scene {
    private static final class TooHard extends RuntimeException {
        private static final long serialVersionUID = 1L;
    }

    /** The legs of a plan; each one is a corridor, a direction, a layer, a start and an end. */
    static final class Plan {
        final List<int[]> legs = new ArrayList<>();
        int arrival;
        int energy;
    }

    static final class Flyer {
        int state;
        int energy;
        int layer;
        int node;
        int destination;
        final int[] accounts = new int[5];
        final List<int[]> legs = new ArrayList<>();
    }

    private static final int MOST_EFFORT = 100000;

    /** How many plans were found by trying all, and how many by growing. */
    static int tried = 0;
    static int grown = 0;

    int time;
    boolean[] pads;
    int[][] corridors;
    final List<int[]> fences = new ArrayList<>();
    final List<Flyer> flyers = new ArrayList<>();
    private int effort;
    private Plan best;

    static Scene of(DroneCorridors x) {
        Scene scene = new Scene();
        scene.time = x.count(4);
        scene.pads = new boolean[x.count(0)];
        for (int node = 0; node < scene.pads.length; node++) {
            scene.pads[node] = x.isPad(node);
        }
        scene.corridors = new int[x.count(1)][4];
        for (int corridor = 0; corridor < scene.corridors.length; corridor++) {
            for (int what = 0; what < 4; what++) {
                scene.corridors[corridor][what] = x.corridor(corridor, what);
            }
        }
        for (int fence = 0; fence < x.count(3); fence++) {
            scene.fences.add(new int[] {x.fence(fence, 0), x.fence(fence, 1), x.fence(fence, 2), x.fence(fence, 3)});
        }
        for (int drone = 0; drone < x.count(2); drone++) {
            scene.flyers.add(flyerOf(x, drone));
        }
        return scene;
    }

    private static Flyer flyerOf(DroneCorridors x, int drone) {
        Flyer flyer = new Flyer();
        flyer.state = x.drone(drone, 0);
        flyer.energy = x.drone(drone, 1);
        flyer.layer = x.drone(drone, 2);
        flyer.node = x.drone(drone, 3);
        flyer.destination = x.drone(drone, 4);
        for (int account = 0; account < 5; account++) {
            flyer.accounts[account] = x.account(drone, account);
        }
        for (int leg = 0; leg < x.drone(drone, 5); leg++) {
            int[] one = new int[5];
            for (int what = 0; what < 5; what++) {
                one[what] = x.leg(drone, leg, what);
            }
            flyer.legs.add(one);
        }
        return flyer;
    }

    String text() {
        StringBuilder all = new StringBuilder("time " + time);
        for (Flyer flyer : flyers) {
            all.append("\n").append(flyer.state).append(' ').append(flyer.energy).append(' ').append(flyer.layer);
            all.append(' ').append(flyer.node).append(' ').append(flyer.destination);
            all.append(java.util.Arrays.toString(flyer.accounts));
            for (int[] leg : flyer.legs) {
                all.append(java.util.Arrays.toString(leg));
            }
        }
        return all.toString();
    }

    private int flightEnergy(int corridor, int direction) {
        int[] way = corridors[corridor];
        return 2 * way[2] + (direction == 0 ? -way[3] : way[3]);
    }

    /** The least costs between all nodes, by Floyd and Warshall. */
    int[][] distances(boolean inTicks) {
        int nodes = pads.length;
        int[][] cost = new int[nodes][nodes];
        for (int from = 0; from < nodes; from++) {
            for (int to = 0; to < nodes; to++) {
                cost[from][to] = from == to ? 0 : 100000;
            }
        }
        for (int i = 0; i < corridors.length; i++) {
            int[] way = corridors[i];
            int forth = inTicks ? way[2] : flightEnergy(i, 0);
            int back = inTicks ? way[2] : flightEnergy(i, 1);
            cost[way[0]][way[1]] = Math.min(cost[way[0]][way[1]], forth);
            cost[way[1]][way[0]] = Math.min(cost[way[1]][way[0]], back);
        }
        for (int over = 0; over < nodes; over++) {
            for (int from = 0; from < nodes; from++) {
                for (int to = 0; to < nodes; to++) {
                    cost[from][to] = Math.min(cost[from][to], cost[from][over] + cost[over][to]);
                }
            }
        }
        return cost;
    }

    /** The reserves, -1 where there is none. */
    int[] reserves() {
        int[][] cost = distances(false);
        int[] reserves = new int[pads.length];
        for (int node = 0; node < pads.length; node++) {
            int least = 100000;
            for (int pad = 0; pad < pads.length; pad++) {
                if (pads[pad]) {
                    least = Math.min(least, cost[node][pad]);
                }
            }
            reserves[node] = least >= 100000 ? -1 : least;
        }
        return reserves;
    }

    private static boolean strikes(int[] fence, int[] leg) {
        return fence[0] == leg[0] && (fence[1] & 1 << leg[2]) != 0 && leg[3] < fence[3] && leg[4] > fence[2];
    }

    static boolean separated(int[] one, int[] other) {
        if (one[0] != other[0] || one[2] != other[2]) {
            return true;
        }
        if (one[1] == other[1]) {
            return Math.abs(one[3] - other[3]) >= 2;
        }
        return one[4] <= other[3] || other[4] <= one[3];
    }

    private boolean allowed(int number, int[] leg, boolean withFences, boolean withOthers) {
        if (withFences) {
            for (int[] fence : fences) {
                if (strikes(fence, leg)) {
                    return false;
                }
            }
        }
        for (int i = 0; withOthers && i < flyers.size(); i++) {
            for (int[] other : flyers.get(i).legs) {
                if (i != number && !separated(leg, other)) {
                    return false;
                }
            }
        }
        return true;
    }

    /** The best plan, or null. */
    Plan plan(int number, int target, boolean withFences, boolean withOthers) {
        Flyer flyer = flyers.get(number);
        if (flyer.state == 3) {
            return null;
        }
        Plan empty = new Plan();
        empty.arrival = flyer.state == 2 ? flyer.legs.get(0)[4] : time;
        if (flyer.node == target) {
            return empty;
        }
        int[] reserves = reserves();
        if (reserves[target] < 0) {
            return null;
        }
        try {
            Plan found = tryAll(number, target, empty.arrival, withFences, withOthers);
            tried++;
            return found;
        } catch (TooHard e) {
            grown++;
            return grow(number, target, empty.arrival, withFences, withOthers);
        }
    }

    private Plan tryAll(int number, int target, int from, boolean withFences, boolean withOthers) {
        Flyer flyer = flyers.get(number);
        int[] reserves = reserves();
        int[][] ticks = distances(true);
        effort = 0;
        best = null;
        for (int end = from + 1; end <= time + 40 && best == null; end++) {
            tryLegs(new int[] {number, target, end, withFences ? 1 : 0, withOthers ? 1 : 0}, reserves, ticks,
                    new ArrayList<>(), new int[] {from, flyer.node, flyer.layer, 0});
        }
        return best;
    }

    /** Keeps, for each time, node and layer, the best plan whose last leg ends there, as a whole. */
    private Plan grow(int number, int target, int from, boolean withFences, boolean withOthers) {
        Flyer flyer = flyers.get(number);
        int[] reserves = reserves();
        Plan[][][] ends = new Plan[41][pads.length][3];
        Plan none = new Plan();
        none.arrival = from;
        for (int start = from; start < time + 40; start++) {
            for (int layer = 0; layer < 3; layer++) {
                if (ends[start - time][target][layer] != null) {
                    return bestOf(ends[start - time][target]);
                }
            }
            for (int corridor = 0; corridor < corridors.length; corridor++) {
                for (int lane = 0; lane < 6; lane++) {
                    int[] way = corridors[corridor];
                    int[] leg = {corridor, lane / 3, lane % 3, start, start + way[2]};
                    int to = way[1 - leg[1]];
                    if (leg[4] > time + 40 || !allowed(number, leg, withFences, withOthers) || reserves[to] < 0) {
                        continue;
                    }
                    Plan plan = way[leg[1]] == flyer.node ? longer(none, leg, flyer) : null;
                    for (int end = from; end <= start; end++) {
                        for (int layer = 0; layer < 3; layer++) {
                            plan = betterOf(plan, longer(ends[end - time][way[leg[1]]][layer], leg, flyer));
                        }
                    }
                    if (plan != null && flyer.energy - plan.energy >= reserves[to]) {
                        Plan[] there = ends[leg[4] - time][to];
                        there[leg[2]] = betterOf(there[leg[2]], plan);
                    }
                }
            }
        }
        return bestOf(ends[40][target]);
    }

    private static Plan bestOf(Plan[] plans) {
        Plan best = null;
        for (Plan plan : plans) {
            best = betterOf(best, plan);
        }
        return best;
    }

    private static Plan betterOf(Plan one, Plan other) {
        if (one == null || other == null) {
            return one == null ? other : one;
        }
        if (one.energy != other.energy) {
            return one.energy < other.energy ? one : other;
        }
        return isBetterFromTheEnd(other.legs, one.legs) ? other : one;
    }

    private Plan longer(Plan plan, int[] leg, Flyer flyer) {
        if (plan == null) {
            return null;
        }
        boolean isFirst = plan.legs.isEmpty();
        int layer = isFirst ? flyer.layer : plan.legs.get(plan.legs.size() - 1)[2];
        Plan longer = new Plan();
        longer.legs.addAll(plan.legs);
        longer.legs.add(leg);
        longer.arrival = leg[4];
        longer.energy = plan.energy + (isFirst && flyer.state == 0 ? 0 : leg[3] - plan.arrival)
                + Math.abs(leg[2] - layer) + flightEnergy(leg[0], leg[1]);
        return longer;
    }

    /** Tries all legs behind those before; at tells the time, the node, the layer and the energy taken. */
    private void tryLegs(int[] task, int[] reserves, int[][] ticks, List<int[]> legs, int[] at) {
        Flyer flyer = flyers.get(task[0]);
        for (int corridor = 0; corridor < corridors.length; corridor++) {
            int[] way = corridors[corridor];
            if (way[0] != at[1] && way[1] != at[1]) {
                continue;
            }
            int direction = way[0] == at[1] ? 0 : 1;
            int to = way[1 - direction];
            for (int start = at[0]; start + way[2] + ticks[to][task[1]] <= task[2]; start++) {
                for (int layer = 0; layer < 3; layer++) {
                    if (effort++ > MOST_EFFORT) {
                        throw new TooHard();
                    }
                    boolean isFree = flyer.state == 0 && legs.isEmpty();
                    int taken = at[3] + (isFree ? 0 : start - at[0]) + Math.abs(layer - at[2])
                            + flightEnergy(corridor, direction);
                    int[] leg = {corridor, direction, layer, start, start + way[2]};
                    if (flyer.energy - taken < reserves[to] || !allowed(task[0], leg, task[3] == 1, task[4] == 1)) {
                        continue;
                    }
                    legs.add(leg);
                    if (to != task[1]) {
                        tryLegs(task, reserves, ticks, legs, new int[] {leg[4], to, layer, taken});
                    } else if (leg[4] == task[2]) {
                        compare(legs, taken, leg[4]);
                    }
                    legs.remove(legs.size() - 1);
                }
            }
        }
    }

    private void compare(List<int[]> legs, int energy, int arrival) {
        if (best == null || energy < best.energy || energy == best.energy && isBetterFromTheEnd(legs, best.legs)) {
            best = new Plan();
            best.legs.addAll(legs);
            best.energy = energy;
            best.arrival = arrival;
        }
    }

    private static boolean isBetterFromTheEnd(List<int[]> one, List<int[]> other) {
        for (int back = 1; back <= one.size() && back <= other.size(); back++) {
            int[] leg = one.get(one.size() - back);
            int[] otherLeg = other.get(other.size() - back);
            if (leg[2] != otherLeg[2]) {
                return leg[2] < otherLeg[2];
            }
            if (leg[0] != otherLeg[0]) {
                return leg[0] < otherLeg[0];
            }
            if (leg[3] != otherLeg[3]) {
                return leg[3] > otherLeg[3];
            }
        }
        return one.size() < other.size();
    }

    /** The pad of the earliest plan, the lowest of several, or -1. */
    int nearestPad(int number) {
        int nearest = -1;
        int earliest = Integer.MAX_VALUE;
        for (int pad = 0; pad < pads.length; pad++) {
            Plan plan = pads[pad] ? plan(number, pad, true, true) : null;
            if (plan != null && plan.arrival < earliest) {
                nearest = pad;
                earliest = plan.arrival;
            }
        }
        return nearest;
    }

    int reason(int number, int target) {
        if (flyers.get(number).state == 3) {
            return 1;
        }
        if (reserves()[target] < 0) {
            return 2;
        }
        if (plan(number, target, false, false) == null) {
            return 3;
        }
        return plan(number, target, true, false) == null ? 4 : 5;
    }

    private void removeLegs(Flyer flyer) {
        while (flyer.legs.size() > (flyer.state == 2 ? 1 : 0)) {
            flyer.legs.remove(flyer.legs.size() - 1);
        }
    }

    void take(int number, Plan plan, int target) {
        Flyer flyer = flyers.get(number);
        removeLegs(flyer);
        flyer.legs.addAll(plan.legs);
        flyer.destination = target;
        if (plan.legs.isEmpty() && flyer.state == 1 && pads[target]) {
            flyer.state = 0;
            flyer.layer = 0;
        }
    }

    int struck() {
        int struck = 0;
        for (int i = 0; i < flyers.size(); i++) {
            Flyer flyer = flyers.get(i);
            for (int j = flyer.state == 2 ? 1 : 0; j < flyer.legs.size(); j++) {
                for (int[] fence : fences) {
                    if (strikes(fence, flyer.legs.get(j))) {
                        struck |= 1 << i;
                    }
                }
            }
        }
        return struck;
    }

    int reroute() {
        int struck = struck();
        int kept = 0;
        for (int i = 0; i < flyers.size(); i++) {
            if ((struck & 1 << i) == 0) {
                continue;
            }
            Flyer flyer = flyers.get(i);
            Plan plan = plan(i, flyer.destination, true, true);
            int pad = plan == null ? nearestPad(i) : -1;
            if (plan != null) {
                take(i, plan, flyer.destination);
                kept++;
            } else if (pad >= 0) {
                take(i, plan(i, pad, true, true), pad);
            } else {
                removeLegs(flyer);
                flyer.destination = -1;
            }
        }
        return kept;
    }

    void cancel(int number) {
        Flyer flyer = flyers.get(number);
        removeLegs(flyer);
        flyer.destination = flyer.state == 2 ? flyer.node : -1;
    }

    void drain(int number, int energy) {
        Flyer flyer = flyers.get(number);
        for (int i = 0; i < energy && flyer.energy > (flyer.state == 2 ? 1 : 0); i++) {
            flyer.energy--;
        }
        if (flyer.state == 1 && flyer.energy == 0) {
            flyer.state = 3;
            flyer.legs.clear();
        }
    }

    int advance(int ticks) {
        int landings = 0;
        for (int i = 0; i < ticks; i++) {
            for (Flyer flyer : flyers) {
                landings += tick(flyer) ? 1 : 0;
            }
            time++;
        }
        return landings;
    }

    private boolean tick(Flyer flyer) {
        if (flyer.state == 3) {
            return false;
        }
        if (flyer.state != 2 && !flyer.legs.isEmpty() && flyer.legs.get(0)[3] == time) {
            int[] leg = flyer.legs.get(0);
            int change = Math.abs(flyer.layer - leg[2]);
            int flight = flightEnergy(leg[0], leg[1]);
            if (flyer.energy >= change + flight) {
                flyer.energy -= change + flight;
                flyer.accounts[0] += flight;
                flyer.accounts[1] += change;
                flyer.accounts[4]++;
                flyer.state = 2;
                flyer.layer = leg[2];
                flyer.node = corridors[leg[0]][1 - leg[1]];
            } else {
                flyer.legs.clear();
                flyer.destination = -1;
            }
        }
        if (flyer.state == 0) {
            for (int i = 0; i < 3 && flyer.energy < 200; i++) {
                flyer.energy++;
                flyer.accounts[3]++;
            }
        } else if (flyer.state == 1) {
            if (flyer.energy > 0) {
                flyer.energy--;
                flyer.accounts[2]++;
            }
            if (flyer.energy == 0) {
                flyer.state = 3;
                flyer.legs.clear();
            }
        } else if (flyer.legs.get(0)[4] == time + 1) {
            flyer.legs.remove(0);
            flyer.state = 1;
            if (flyer.legs.isEmpty() && flyer.node == flyer.destination && pads[flyer.node]) {
                flyer.state = 0;
                flyer.layer = 0;
                return true;
            }
        }
        return false;
    }

    int low() {
        int[] reserves = reserves();
        int low = 0;
        for (int i = 0; i < flyers.size(); i++) {
            Flyer flyer = flyers.get(i);
            if (flyer.state == 1 && (reserves[flyer.node] < 0 || flyer.energy < reserves[flyer.node])) {
                low |= 1 << i;
            }
        }
        return low;
    }

    int pairs(boolean isSeparated) {
        int found = 0;
        for (int i = 0; i < flyers.size(); i++) {
            for (int j = 0; j < i; j++) {
                for (int[] one : flyers.get(i).legs) {
                    for (int[] other : flyers.get(j).legs) {
                        if (one[0] == other[0] && one[2] == other[2] && separated(one, other) == isSeparated) {
                            found++;
                        }
                    }
                }
            }
        }
        return found;
    }

    int place(int number) {
        Flyer flyer = flyers.get(number);
        return flyer.state == 2 ? 100 + flyer.legs.get(0)[0] : flyer.node;
    }
}
