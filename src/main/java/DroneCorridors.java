import java.util.Arrays;
import java.util.NoSuchElementException;

/** A manager of drones in corridors; the promises that it keeps are in ../shared/DOC.md. */
public final class DroneCorridors {
    private static final int MAX_NODES = 10;
    private static final int MAX_CORRIDORS = 16;
    private static final int MAX_DRONES = 6;
    private static final int MAX_FENCES = 10;
    private static final int MAX_LENGTH = 9;
    private static final int MAX_ENERGY = 200;
    private static final int MAX_TIME = 10000;
    private static final int MAX_INPUT = 60;
    private static final int MAX_REMEMBERED = 8;

    private static final int LAYERS = 3;
    private static final int ALL_LAYERS = 7;
    private static final int HORIZON = 40;
    // One leg in which the drone flies, and every leg behind it takes at least a tick of the horizon.
    private static final int MAX_LEGS = HORIZON + 1;
    private static final int CHARGE = 3;
    private static final int TEXT_ENERGY = 100;
    private static final int CORRIDOR_TEXT = 7;
    private static final int IN_CORRIDOR = 100;

    private static final int LANDED = 0;
    private static final int HOVERING = 1;
    private static final int FLYING = 2;
    private static final int LOST = 3;

    private static final int BY_LEGS = 0;
    private static final int BY_CHANGES = 1;
    private static final int BY_HOVERING = 2;
    private static final int CHARGED = 3;
    private static final int STARTED = 4;
    private static final int ACCOUNTS = 5;

    private static final int FORTH = 0;
    private static final int BACK = 1;
    private static final int DIRECTIONS = 2;
    private static final int LANES = MAX_CORRIDORS * DIRECTIONS * LAYERS;

    private static final int NONE = -1;
    private static final int FAR = 1000000;

    // What a search heeds, each one with those before it.
    private static final int NOTHING = 0;
    private static final int FENCES = 1;
    private static final int ALL_DRONES = 2;

    private final World world = new World();
    private final World saved = new World();
    private final History history = new History();
    private final Search search = new Search();
    private final Ways ways = new Ways();
    private final Input input = new Input();
    private final Drone ghost = new Drone();
    private boolean isSaved = false;
    private int lastReason = NONE;
    private int lastError = NONE;

    public DroneCorridors() {
    }

    public int clear() {
        int nodes = world.nodeCount;
        world.empty();
        history.forget();
        return nodes;
    }

    public int addNode(boolean isPad) throws IllegalStateException {
        if (world.nodeCount >= MAX_NODES) {
            throw new IllegalStateException("there are 10 nodes");
        }
        history.remember(world);
        return world.newNode(isPad);
    }

    public int addCorridor(int first, int second, int length, int wind)
            throws IndexOutOfBoundsException, IllegalArgumentException, IllegalStateException {
        if (!world.hasNode(first) || !world.hasNode(second)) {
            throw new IndexOutOfBoundsException("no such node");
        }
        if (first == second || length < 1 || length > MAX_LENGTH || !isWindFor(length, wind)) {
            throw new IllegalArgumentException("no such corridor can be");
        }
        if (world.corridorCount >= MAX_CORRIDORS) {
            throw new IllegalStateException("there are 16 corridors");
        }
        history.remember(world);
        return world.newCorridor(first, second, length, wind);
    }

    public int setWind(int corridor, int wind) throws IndexOutOfBoundsException, IllegalArgumentException {
        Corridor way = world.corridorAt(corridor);
        if (way == null) {
            throw new IndexOutOfBoundsException("no such corridor");
        }
        if (!isWindFor(way.length, wind)) {
            throw new IllegalArgumentException("the wind is greater than the length");
        }
        history.remember(world);
        int previous = way.wind;
        way.wind = wind;
        return previous;
    }

    public int addFence(int corridor, int layers, int beginning, int end)
            throws IndexOutOfBoundsException, IllegalArgumentException, IllegalStateException {
        if (world.corridorAt(corridor) == null) {
            throw new IndexOutOfBoundsException("no such corridor");
        }
        if (layers < 1 || layers > ALL_LAYERS || beginning < 0 || end <= beginning || end > MAX_TIME) {
            throw new IllegalArgumentException("a number of the fence is out of range");
        }
        if (world.fenceCount >= MAX_FENCES) {
            throw new IllegalStateException("there are 10 fences");
        }
        history.remember(world);
        world.newFence(corridor, layers, beginning, end);
        return world.struckDrones();
    }

    public int removeFence(int fence) throws IndexOutOfBoundsException {
        if (world.fenceAt(fence) == null) {
            throw new IndexOutOfBoundsException("no such fence");
        }
        history.remember(world);
        world.dropFence(fence);
        return world.struckDrones();
    }

    public int fence(int fence, int what) throws IndexOutOfBoundsException, IllegalArgumentException {
        Fence one = world.fenceAt(fence);
        if (one == null) {
            throw new IndexOutOfBoundsException("no such fence");
        }
        switch (what) {
            case 0:
                return one.corridor;
            case 1:
                return one.layers;
            case 2:
                return one.beginning;
            case 3:
                return one.end;
            default:
                throw new IllegalArgumentException("what is not 0 to 3");
        }
    }

    public int corridor(int corridor, int what) throws IndexOutOfBoundsException, IllegalArgumentException {
        Corridor way = world.corridorAt(corridor);
        if (way == null) {
            throw new IndexOutOfBoundsException("no such corridor");
        }
        switch (what) {
            case 0:
                return way.first;
            case 1:
                return way.second;
            case 2:
                return way.length;
            case 3:
                return way.wind;
            case 4:
                return way.energyOf(FORTH);
            case 5:
                return way.energyOf(BACK);
            case 6:
                return world.dronesFlyingIn(corridor);
            default:
                throw new IllegalArgumentException("what is not 0 to 6");
        }
    }

    public boolean isPad(int node) throws IndexOutOfBoundsException {
        if (!world.hasNode(node)) {
            throw new IndexOutOfBoundsException("no such node");
        }
        return holds(world.pads, node);
    }

    public int reserve(int node) throws IndexOutOfBoundsException, NoSuchElementException {
        if (!world.hasNode(node)) {
            throw new IndexOutOfBoundsException("no such node");
        }
        ways.measure(world, world.pads, false);
        int energy = ways.leastFrom(node);
        if (energy >= FAR) {
            throw new NoSuchElementException("no pad can be reached");
        }
        return energy;
    }

    public int ticksBetween(int from, int to) throws IndexOutOfBoundsException, NoSuchElementException {
        if (!world.hasNode(from) || !world.hasNode(to)) {
            throw new IndexOutOfBoundsException("no such node");
        }
        ways.measure(world, 1 << to, true);
        int ticks = ways.leastFrom(from);
        if (ticks >= FAR) {
            throw new NoSuchElementException("there is no way");
        }
        return ticks;
    }

    public int count(int what) throws IllegalArgumentException {
        switch (what) {
            case 0:
                return world.nodeCount;
            case 1:
                return world.corridorCount;
            case 2:
                return world.droneCount;
            case 3:
                return world.fenceCount;
            case 4:
                return world.time;
            case 5:
            case 6:
            case 7:
            case 8:
                return world.dronesInState(what - 5);
            default:
                throw new IllegalArgumentException("what is not 0 to 8");
        }
    }

    public int addDrone(int node, int energy)
            throws IndexOutOfBoundsException, IllegalArgumentException, IllegalStateException {
        if (!world.hasNode(node)) {
            throw new IndexOutOfBoundsException("no such node");
        }
        if (energy < 1 || energy > MAX_ENERGY) {
            throw new IllegalArgumentException("the energy is not 1 to 200");
        }
        if (world.droneCount >= MAX_DRONES) {
            throw new IllegalStateException("there are 6 drones");
        }
        history.remember(world);
        return world.newDrone(node, energy);
    }

    public int drone(int drone, int what) throws IndexOutOfBoundsException, IllegalArgumentException {
        Drone one = world.droneAt(drone);
        if (one == null) {
            throw new IndexOutOfBoundsException("no such drone");
        }
        switch (what) {
            case 0:
                return one.state;
            case 1:
                return one.energy;
            case 2:
                return one.layer;
            case 3:
                return one.node;
            case 4:
                return one.destination;
            case 5:
                return one.legCount;
            case 6:
                return one.endOfPlan(world.time);
            default:
                throw new IllegalArgumentException("what is not 0 to 6");
        }
    }

    public int plan(int drone, int node) throws IndexOutOfBoundsException, UnsupportedOperationException {
        Drone one = world.droneAt(drone);
        if (one == null || !world.hasNode(node)) {
            throw new IndexOutOfBoundsException("no such drone or node");
        }
        if (!search.find(world, drone, 1 << node, ALL_DRONES)) {
            lastReason = whyNotPlanned(drone, node);
            throw new UnsupportedOperationException("it cannot be planned");
        }
        history.remember(world);
        search.applyTo(world, one);
        return search.arrivalTime;
    }

    public int arrival(int drone, int node) throws IndexOutOfBoundsException, NoSuchElementException {
        findOrRefuse(drone, node);
        return search.arrivalTime;
    }

    public int planEnergy(int drone, int node) throws IndexOutOfBoundsException, NoSuchElementException {
        findOrRefuse(drone, node);
        return search.spent;
    }

    public int leg(int drone, int index, int what) throws IndexOutOfBoundsException, IllegalArgumentException {
        Drone one = world.droneAt(drone);
        if (one == null) {
            throw new IndexOutOfBoundsException("no such drone");
        }
        Leg leg = one.legAt(index);
        if (leg == null) {
            throw new IndexOutOfBoundsException("no such leg");
        }
        switch (what) {
            case 0:
                return leg.corridor;
            case 1:
                return leg.direction;
            case 2:
                return leg.layer;
            case 3:
                return leg.start;
            case 4:
                return leg.end;
            default:
                throw new IllegalArgumentException("what is not 0 to 4");
        }
    }

    public int cancel(int drone) throws IndexOutOfBoundsException {
        Drone one = world.droneAt(drone);
        if (one == null) {
            throw new IndexOutOfBoundsException("no such drone");
        }
        history.remember(world);
        int removed = one.cutLegs();
        one.destination = one.state == FLYING ? one.node : NONE;
        return removed;
    }

    public int drain(int drone, int energy)
            throws IndexOutOfBoundsException, IllegalArgumentException, IllegalStateException {
        Drone one = world.droneAt(drone);
        if (one == null) {
            throw new IndexOutOfBoundsException("no such drone");
        }
        if (energy < 1 || energy > MAX_ENERGY) {
            throw new IllegalArgumentException("the energy is not 1 to 200");
        }
        if (one.state == LOST) {
            throw new IllegalStateException("the drone is lost");
        }
        history.remember(world);
        one.loseTo(energy);
        return one.energy;
    }

    public int struck() {
        return world.struckDrones();
    }

    public int reroute() {
        history.remember(world);
        int struck = world.struckDrones();
        int kept = 0;
        for (int i = 0; i < world.droneCount; i++) {
            if (holds(struck, i) && divert(i)) {
                kept++;
            }
        }
        return kept;
    }

    public int nearestPad(int drone) throws IndexOutOfBoundsException, NoSuchElementException {
        if (world.droneAt(drone) == null) {
            throw new IndexOutOfBoundsException("no such drone");
        }
        if (!search.find(world, drone, world.pads, ALL_DRONES)) {
            throw new NoSuchElementException("it cannot be planned to a pad");
        }
        return search.goal;
    }

    public int low() {
        ways.measure(world, world.pads, false);
        int low = 0;
        for (int i = 0; i < world.droneCount; i++) {
            Drone one = world.droneAt(i);
            // A node without a reserve is FAR, which is more than any energy.
            if (one != null && one.state == HOVERING && one.energy < ways.leastFrom(one.node)) {
                low |= 1 << i;
            }
        }
        return low;
    }

    public int reason() throws NoSuchElementException {
        if (lastReason == NONE) {
            throw new NoSuchElementException("no reason was kept");
        }
        return lastReason;
    }

    public int advance(int ticks) throws IllegalArgumentException, IllegalStateException {
        if (ticks < 1 || ticks > HORIZON) {
            throw new IllegalArgumentException("the ticks are not 1 to 40");
        }
        if (world.time + ticks > MAX_TIME) {
            throw new IllegalStateException("the time would become greater than 10000");
        }
        history.remember(world);
        return world.passTicks(ticks);
    }

    public int placeAfter(int drone, int ticks) throws IndexOutOfBoundsException, IllegalArgumentException {
        Drone one = world.droneAt(drone);
        if (one == null) {
            throw new IndexOutOfBoundsException("no such drone");
        }
        if (ticks < 0 || ticks > HORIZON) {
            throw new IllegalArgumentException("the ticks are not 0 to 40");
        }
        ghost.copy(one);
        for (int i = 0; i < ticks; i++) {
            ghost.passTick(world, world.time + i);
        }
        return ghost.place();
    }

    public int pairs(boolean isSeparated) {
        int found = 0;
        for (int i = 0; i < world.droneCount; i++) {
            for (int j = i + 1; j < world.droneCount; j++) {
                found += pairsBetween(world.droneAt(i), world.droneAt(j), isSeparated);
            }
        }
        return found;
    }

    public int uses(int corridor, int layer) throws IndexOutOfBoundsException, IllegalArgumentException {
        if (world.corridorAt(corridor) == null) {
            throw new IndexOutOfBoundsException("no such corridor");
        }
        if (layer < NONE || layer >= LAYERS) {
            throw new IllegalArgumentException("the layer is not -1 to 2");
        }
        int found = 0;
        for (int i = 0; i < world.droneCount; i++) {
            Drone one = world.droneAt(i);
            if (one != null) {
                found += one.legsIn(corridor, layer);
            }
        }
        return found;
    }

    public int account(int drone, int account) throws IndexOutOfBoundsException, IllegalArgumentException {
        Drone one = world.droneAt(drone);
        if (one == null) {
            throw new IndexOutOfBoundsException("no such drone");
        }
        if (account < 0 || account >= ACCOUNTS) {
            throw new IllegalArgumentException("the account is not 0 to 4");
        }
        return one.sumOf(account);
    }

    public int audit() {
        int wrong = 0;
        for (int i = 0; i < world.droneCount; i++) {
            Drone one = world.droneAt(i);
            if (one != null && !one.addsUp()) {
                wrong++;
            }
        }
        return wrong;
    }

    public double flyingShare() throws ArithmeticException {
        int flown = world.sumOf(BY_LEGS);
        int taken = flown + world.sumOf(BY_CHANGES) + world.sumOf(BY_HOVERING);
        if (taken == 0) {
            throw new ArithmeticException("no energy was taken");
        }
        return (double) flown / (double) taken;
    }

    public int busiest() throws NoSuchElementException {
        int busiest = NONE;
        int most = 0;
        for (int i = 0; i < world.droneCount; i++) {
            Drone one = world.droneAt(i);
            if (one != null && one.sumOf(STARTED) > most) {
                busiest = i;
                most = one.sumOf(STARTED);
            }
        }
        if (busiest == NONE) {
            throw new NoSuchElementException("no leg was started");
        }
        return busiest;
    }

    public int append(char character) throws IllegalArgumentException, IllegalStateException {
        if (character < 32 || character > 126) {
            throw new IllegalArgumentException("the code is not 32 to 126");
        }
        if (input.length >= MAX_INPUT) {
            throw new IllegalStateException("the input has 60 characters");
        }
        input.put(character);
        return input.length;
    }

    public int read() throws IllegalArgumentException, IllegalStateException {
        int error = input.findError();
        if (error != NONE) {
            lastError = error;
            input.length = 0;
            throw new IllegalArgumentException("the input is not a text");
        }
        history.sketch(world);
        int entries = doEntries();
        input.length = 0;
        if (entries == NONE) {
            history.takeBack(world);
            throw new IllegalStateException("an entry would throw an exception");
        }
        history.keep();
        return entries;
    }

    public int errorPosition() throws NoSuchElementException {
        if (lastError == NONE) {
            throw new NoSuchElementException("no error position was kept");
        }
        return lastError;
    }

    public int describe(int corridor, int index) throws IndexOutOfBoundsException, NoSuchElementException {
        Corridor way = world.corridorAt(corridor);
        if (way == null) {
            throw new IndexOutOfBoundsException("no such corridor");
        }
        switch (index) {
            case -1:
                return CORRIDOR_TEXT;
            case 0:
                return 'c';
            case 1:
                return '0' + way.first;
            case 2:
                return '-';
            case 3:
                return '0' + way.second;
            case 4:
                return '*';
            case 5:
                return '0' + way.length;
            case 6:
                return ';';
            default:
                throw new NoSuchElementException("no such character");
        }
    }

    public int undo() throws NoSuchElementException {
        if (history.size == 0) {
            throw new NoSuchElementException("no change is remembered");
        }
        history.stepBack(world);
        return history.size;
    }

    public int save() {
        saved.copy(world);
        isSaved = true;
        return world.nodeCount;
    }

    public int restore() throws IllegalStateException {
        if (!isSaved) {
            throw new IllegalStateException("nothing was saved");
        }
        world.copy(saved);
        history.forget();
        return world.nodeCount;
    }

    private static boolean holds(int set, int number) {
        return (set >> number & 1) != 0;
    }

    private static int lowestOf(int set) {
        for (int i = 0; i < MAX_NODES; i++) {
            if (holds(set, i)) {
                return i;
            }
        }
        return NONE;
    }

    private static boolean isWindFor(int length, int wind) {
        return wind >= -length && wind <= length;
    }

    private static int pairsBetween(Drone one, Drone other, boolean isSeparated) {
        if (one == null || other == null) {
            return 0;
        }
        int found = 0;
        for (int i = 0; i < one.legCount; i++) {
            Leg leg = one.legAt(i);
            if (leg != null) {
                found += other.pairsWith(leg, isSeparated);
            }
        }
        return found;
    }

    private void findOrRefuse(int drone, int node) {
        if (world.droneAt(drone) == null || !world.hasNode(node)) {
            throw new IndexOutOfBoundsException("no such drone or node");
        }
        if (!search.find(world, drone, 1 << node, ALL_DRONES)) {
            throw new NoSuchElementException("it cannot be planned");
        }
    }

    private int whyNotPlanned(int number, int node) {
        Drone one = world.droneAt(number);
        if (one == null || one.state == LOST) {
            return 1;
        }
        ways.measure(world, world.pads, false);
        if (ways.leastFrom(node) >= FAR) {
            return 2;
        }
        if (!search.find(world, number, 1 << node, NOTHING)) {
            return 3;
        }
        return search.find(world, number, 1 << node, FENCES) ? 5 : 4;
    }

    /** Plans a struck drone anew, and answers whether it keeps its destination. */
    private boolean divert(int number) {
        Drone one = world.droneAt(number);
        if (one == null) {
            return false;
        }
        boolean isKept = world.hasNode(one.destination)
                && search.find(world, number, 1 << one.destination, ALL_DRONES);
        if (isKept || search.find(world, number, world.pads, ALL_DRONES)) {
            search.applyTo(world, one);
        } else {
            one.cutLegs();
            one.destination = NONE;
        }
        return isKept;
    }

    /** Does the entries of the input, and answers their number, or NONE if one of them cannot be done. */
    private int doEntries() {
        int entries = 0;
        for (int at = 0; at < input.length; at++) {
            if (!doEntry(at)) {
                return NONE;
            }
            entries++;
            at += input.restOf(at).length();
        }
        return entries;
    }

    private boolean doEntry(int at) {
        int digit = input.digitAt(at + 1);
        switch (input.signAt(at)) {
            case 'n':
                return world.newNode(false) != NONE;
            case 'p':
                return world.newNode(true) != NONE;
            case 'c':
                return doCorridorEntry(digit, input.digitAt(at + 3), input.digitAt(at + 5));
            case 'd':
                return world.hasNode(digit) && world.newDrone(digit, TEXT_ENERGY) != NONE;
            case 't':
                if (world.time + digit > MAX_TIME) {
                    return false;
                }
                world.passTicks(digit);
                return true;
            default:
                return false;
        }
    }

    private boolean doCorridorEntry(int first, int second, int length) {
        return world.hasNode(first) && world.hasNode(second) && first != second
                && world.newCorridor(first, second, length, 0) != NONE;
    }

    private static final class Corridor {
        int first;
        int second;
        int length;
        int wind;

        int energyOf(int direction) {
            return direction == FORTH ? 2 * length - wind : 2 * length + wind;
        }

        int beginOf(int direction) {
            return direction == FORTH ? first : second;
        }

        int endOf(int direction) {
            return direction == FORTH ? second : first;
        }

        void copy(Corridor other) {
            first = other.first;
            second = other.second;
            length = other.length;
            wind = other.wind;
        }
    }

    private static final class Fence {
        int corridor;
        int layers;
        int beginning;
        int end;

        boolean strikes(Leg leg) {
            return leg.corridor == corridor && holds(layers, leg.layer) && leg.start < end && leg.end > beginning;
        }

        void copy(Fence other) {
            corridor = other.corridor;
            layers = other.layers;
            beginning = other.beginning;
            end = other.end;
        }
    }

    private static final class Leg {
        int corridor;
        int direction;
        int layer;
        int start;
        int end;

        boolean isWhereIs(Leg other) {
            return corridor == other.corridor && layer == other.layer;
        }

        boolean isSeparatedFrom(Leg other) {
            if (direction == other.direction) {
                return Math.abs(start - other.start) >= 2;
            }
            return end <= other.start || other.end <= start;
        }

        void copy(Leg other) {
            corridor = other.corridor;
            direction = other.direction;
            layer = other.layer;
            start = other.start;
            end = other.end;
        }
    }

    private static final class Drone {
        int state;
        int energy;
        int layer;
        /** While it flies, the node at which its leg ends. */
        int node;
        int destination;
        int firstEnergy;
        int drained;
        final int[] sums = new int[ACCOUNTS];
        int legCount;
        /** The legs that have not ended; while it flies, the first one is that in which it does. */
        final Leg[] legs = new Leg[MAX_LEGS];

        Drone() {
            for (int i = 0; i < legs.length; i++) {
                legs[i] = new Leg();
            }
        }

        void setUp(int atNode, boolean onPad, int withEnergy) {
            state = onPad ? LANDED : HOVERING;
            energy = withEnergy;
            layer = 0;
            node = atNode;
            destination = NONE;
            firstEnergy = withEnergy;
            drained = 0;
            Arrays.fill(sums, 0);
            legCount = 0;
        }

        void copy(Drone other) {
            state = other.state;
            energy = other.energy;
            layer = other.layer;
            node = other.node;
            destination = other.destination;
            firstEnergy = other.firstEnergy;
            drained = other.drained;
            for (int i = 0; i < ACCOUNTS; i++) {
                sums[i] = other.sums[i];
            }
            legCount = other.legCount;
            for (int i = 0; i < legCount; i++) {
                Leg to = legAt(i);
                Leg from = other.legAt(i);
                if (to != null && from != null) {
                    to.copy(from);
                }
            }
        }

        Leg legAt(int index) {
            return index >= 0 && index < legCount && index < legs.length ? legs[index] : null;
        }

        int sumOf(int account) {
            return account >= 0 && account < sums.length ? sums[account] : 0;
        }

        int legsBegun() {
            return state == FLYING && legCount > 0 ? 1 : 0;
        }

        int endOfPlan(int now) {
            Leg last = legAt(legCount - 1);
            return last == null ? now : last.end;
        }

        int place() {
            Leg now = legAt(0);
            return state == FLYING && now != null ? IN_CORRIDOR + now.corridor : node;
        }

        /** Removes the legs that have not started, and answers how many. */
        int cutLegs() {
            int removed = legCount - legsBegun();
            legCount -= removed;
            return removed;
        }

        /** Makes room for so many legs behind those that there are. */
        void growLegs(int more) {
            if (more >= 0 && more <= legs.length - legCount) {
                legCount += more;
            }
        }

        void dropFirstLeg() {
            if (legCount < 1 || legCount > legs.length) {
                return;
            }
            Leg first = legs[0];
            for (int i = 1; i < legCount; i++) {
                legs[i - 1] = legs[i];
            }
            legs[legCount - 1] = first;
            legCount--;
        }

        int legsIn(int corridor, int layerOrAll) {
            int found = 0;
            for (int i = 0; i < legCount; i++) {
                Leg leg = legAt(i);
                if (leg != null && leg.corridor == corridor && (layerOrAll == NONE || leg.layer == layerOrAll)) {
                    found++;
                }
            }
            return found;
        }

        int pairsWith(Leg leg, boolean isSeparated) {
            int found = 0;
            for (int i = 0; i < legCount; i++) {
                Leg own = legAt(i);
                if (own != null && own.isWhereIs(leg) && own.isSeparatedFrom(leg) == isSeparated) {
                    found++;
                }
            }
            return found;
        }

        boolean addsUp() {
            int taken = sums[BY_LEGS] + sums[BY_CHANGES] + sums[BY_HOVERING] + drained;
            return firstEnergy + sums[CHARGED] - taken == energy;
        }

        void land() {
            state = LANDED;
            layer = 0;
        }

        private void beLost() {
            state = LOST;
            legCount = 0;
        }

        /** Gives away energy to a drain, which a drone that flies survives. */
        void loseTo(int wanted) {
            int kept = state == FLYING ? 1 : 0;
            int taken = Math.max(0, Math.min(wanted, energy - kept));
            energy -= taken;
            drained += taken;
            if (state == HOVERING && energy == 0) {
                beLost();
            }
        }

        /** Lets the tick from this time on pass, and answers whether the drone lands in it. */
        boolean passTick(World world, int time) {
            startLegAt(world, time);
            switch (state) {
                case LANDED:
                    chargeTick();
                    return false;
                case HOVERING:
                    hoverTick();
                    return false;
                case FLYING:
                    return endLegAt(world, time + 1);
                default:
                    return false;
            }
        }

        private void startLegAt(World world, int time) {
            Leg next = legAt(0);
            if (next == null || next.start != time || state == FLYING || state == LOST) {
                return;
            }
            Corridor way = world.corridorAt(next.corridor);
            if (way == null) {
                return;
            }
            int change = Math.abs(next.layer - layer);
            int flight = way.energyOf(next.direction);
            if (energy < change + flight) {
                legCount = 0;
                destination = NONE;
                return;
            }
            energy -= change + flight;
            sums[BY_CHANGES] += change;
            sums[BY_LEGS] += flight;
            sums[STARTED]++;
            state = FLYING;
            layer = next.layer;
            node = way.endOf(next.direction);
        }

        private boolean endLegAt(World world, int time) {
            Leg now = legAt(0);
            if (now == null || now.end != time) {
                return false;
            }
            dropFirstLeg();
            state = HOVERING;
            if (legCount > 0 || destination != node || !holds(world.pads, node)) {
                return false;
            }
            land();
            return true;
        }

        private void chargeTick() {
            int gained = Math.min(CHARGE, MAX_ENERGY - energy);
            energy += gained;
            sums[CHARGED] += gained;
        }

        private void hoverTick() {
            if (energy > 0) {
                energy--;
                sums[BY_HOVERING]++;
            }
            if (energy == 0) {
                beLost();
            }
        }
    }

    /** All that the history remembers. */
    private static final class World {
        int time;
        int nodeCount;
        int pads;
        int corridorCount;
        int fenceCount;
        int droneCount;
        private final Corridor[] corridors = new Corridor[MAX_CORRIDORS];
        private final Fence[] fences = new Fence[MAX_FENCES];
        private final Drone[] drones = new Drone[MAX_DRONES];

        World() {
            for (int i = 0; i < corridors.length; i++) {
                corridors[i] = new Corridor();
            }
            for (int i = 0; i < fences.length; i++) {
                fences[i] = new Fence();
            }
            for (int i = 0; i < drones.length; i++) {
                drones[i] = new Drone();
            }
        }

        void empty() {
            time = 0;
            nodeCount = 0;
            pads = 0;
            corridorCount = 0;
            fenceCount = 0;
            droneCount = 0;
        }

        void copy(World other) {
            time = other.time;
            nodeCount = other.nodeCount;
            pads = other.pads;
            copyCorridors(other);
            copyFences(other);
            copyDrones(other);
        }

        private void copyCorridors(World other) {
            corridorCount = other.corridorCount;
            for (int i = 0; i < corridorCount; i++) {
                Corridor to = corridorAt(i);
                Corridor from = other.corridorAt(i);
                if (to != null && from != null) {
                    to.copy(from);
                }
            }
        }

        private void copyFences(World other) {
            fenceCount = other.fenceCount;
            for (int i = 0; i < fenceCount; i++) {
                Fence to = fenceAt(i);
                Fence from = other.fenceAt(i);
                if (to != null && from != null) {
                    to.copy(from);
                }
            }
        }

        private void copyDrones(World other) {
            droneCount = other.droneCount;
            for (int i = 0; i < droneCount; i++) {
                Drone to = droneAt(i);
                Drone from = other.droneAt(i);
                if (to != null && from != null) {
                    to.copy(from);
                }
            }
        }

        boolean hasNode(int number) {
            return number >= 0 && number < nodeCount;
        }

        Corridor corridorAt(int number) {
            return number >= 0 && number < corridorCount && number < corridors.length ? corridors[number] : null;
        }

        Fence fenceAt(int number) {
            return number >= 0 && number < fenceCount && number < fences.length ? fences[number] : null;
        }

        Drone droneAt(int number) {
            return number >= 0 && number < droneCount && number < drones.length ? drones[number] : null;
        }

        int newNode(boolean withPad) {
            if (nodeCount >= MAX_NODES) {
                return NONE;
            }
            if (withPad) {
                pads |= 1 << nodeCount;
            }
            nodeCount++;
            return nodeCount - 1;
        }

        int newCorridor(int first, int second, int length, int wind) {
            if (corridorCount >= MAX_CORRIDORS) {
                return NONE;
            }
            corridorCount++;
            Corridor way = corridorAt(corridorCount - 1);
            if (way != null) {
                way.first = first;
                way.second = second;
                way.length = length;
                way.wind = wind;
            }
            return corridorCount - 1;
        }

        void newFence(int corridor, int layers, int beginning, int end) {
            if (fenceCount >= MAX_FENCES) {
                return;
            }
            fenceCount++;
            Fence one = fenceAt(fenceCount - 1);
            if (one != null) {
                one.corridor = corridor;
                one.layers = layers;
                one.beginning = beginning;
                one.end = end;
            }
        }

        void dropFence(int number) {
            for (int i = number; i < fenceCount - 1; i++) {
                Fence to = fenceAt(i);
                Fence from = fenceAt(i + 1);
                if (to != null && from != null) {
                    to.copy(from);
                }
            }
            fenceCount--;
        }

        int newDrone(int node, int energy) {
            if (droneCount >= MAX_DRONES) {
                return NONE;
            }
            droneCount++;
            Drone one = droneAt(droneCount - 1);
            if (one != null) {
                one.setUp(node, holds(pads, node), energy);
            }
            return droneCount - 1;
        }

        int dronesInState(int state) {
            int found = 0;
            for (int i = 0; i < droneCount; i++) {
                Drone one = droneAt(i);
                if (one != null && one.state == state) {
                    found++;
                }
            }
            return found;
        }

        int dronesFlyingIn(int corridor) {
            int found = 0;
            for (int i = 0; i < droneCount; i++) {
                Drone one = droneAt(i);
                if (one != null && one.place() == IN_CORRIDOR + corridor) {
                    found |= 1 << i;
                }
            }
            return found;
        }

        int struckDrones() {
            int found = 0;
            for (int i = 0; i < droneCount; i++) {
                Drone one = droneAt(i);
                if (one != null && isStruck(one)) {
                    found |= 1 << i;
                }
            }
            return found;
        }

        private boolean isStruck(Drone one) {
            for (int i = one.legsBegun(); i < one.legCount; i++) {
                Leg leg = one.legAt(i);
                if (leg != null && isFenced(leg)) {
                    return true;
                }
            }
            return false;
        }

        private boolean isFenced(Leg leg) {
            for (int i = 0; i < fenceCount; i++) {
                Fence fence = fenceAt(i);
                if (fence != null && fence.strikes(leg)) {
                    return true;
                }
            }
            return false;
        }

        int sumOf(int account) {
            int sum = 0;
            for (int i = 0; i < droneCount; i++) {
                Drone one = droneAt(i);
                if (one != null) {
                    sum += one.sumOf(account);
                }
            }
            return sum;
        }

        /** Lets ticks pass, and answers how many drones land in them. */
        int passTicks(int ticks) {
            int landings = 0;
            for (int tick = 0; tick < ticks; tick++) {
                for (int i = 0; i < droneCount; i++) {
                    Drone one = droneAt(i);
                    if (one != null && one.passTick(this, time)) {
                        landings++;
                    }
                }
                time++;
            }
            return landings;
        }
    }

    /** The least energy, or time, from every node to some goals. */
    private static final class Ways {
        private final int[] least = new int[MAX_NODES];

        int leastFrom(int node) {
            return node >= 0 && node < least.length ? least[node] : FAR;
        }

        void measure(World world, int goals, boolean inTicks) {
            for (int node = 0; node < least.length; node++) {
                least[node] = holds(goals, node) ? 0 : FAR;
            }
            boolean isShorter = true;
            for (int round = 0; round < MAX_NODES && isShorter; round++) {
                isShorter = shortenAll(world, inTicks);
            }
        }

        private boolean shortenAll(World world, boolean inTicks) {
            boolean isShorter = false;
            for (int i = 0; i < world.corridorCount; i++) {
                Corridor way = world.corridorAt(i);
                for (int direction = 0; way != null && direction < DIRECTIONS; direction++) {
                    int cost = inTicks ? way.length : way.energyOf(direction);
                    if (shorten(way.beginOf(direction), leastFrom(way.endOf(direction)) + cost)) {
                        isShorter = true;
                    }
                }
            }
            return isShorter;
        }

        private boolean shorten(int node, int cost) {
            if (node < 0 || node >= least.length || cost >= least[node]) {
                return false;
            }
            least[node] = cost;
            return true;
        }
    }

    /**
     * The starts that are closed on each lane, as bits counted from the present time. A lane is a corridor,
     * a direction in it and a layer.
     */
    private static final class Closures {
        private final long[] closed = new long[LANES];

        boolean isClosed(int lane, int offset) {
            return lane >= 0 && lane < closed.length && (closed[lane] >> offset & 1) != 0;
        }

        void openAll() {
            Arrays.fill(closed, 0L);
        }

        void closeFences(World world) {
            for (int i = 0; i < world.fenceCount; i++) {
                Fence fence = world.fenceAt(i);
                Corridor way = fence == null ? null : world.corridorAt(fence.corridor);
                if (way == null) {
                    continue;
                }
                long starts = between(fence.beginning - way.length + 1 - world.time, fence.end - 1 - world.time);
                for (int layer = 0; layer < LAYERS; layer++) {
                    if (holds(fence.layers, layer)) {
                        close(laneOf(fence.corridor, FORTH, layer), starts);
                        close(laneOf(fence.corridor, BACK, layer), starts);
                    }
                }
            }
        }

        void closeOthers(World world, int number) {
            for (int i = 0; i < world.droneCount; i++) {
                Drone other = world.droneAt(i);
                if (other == null || i == number) {
                    continue;
                }
                for (int j = 0; j < other.legCount; j++) {
                    Leg leg = other.legAt(j);
                    if (leg != null) {
                        closeAround(leg, world.time);
                    }
                }
            }
        }

        private void closeAround(Leg leg, int now) {
            int start = leg.start - now;
            int length = leg.end - leg.start;
            close(laneOf(leg.corridor, leg.direction, leg.layer), between(start - 1, start + 1));
            int opposite = leg.direction == FORTH ? BACK : FORTH;
            close(laneOf(leg.corridor, opposite, leg.layer), between(start - length + 1, start + length - 1));
        }

        private void close(int lane, long starts) {
            if (lane >= 0 && lane < closed.length) {
                closed[lane] |= starts;
            }
        }

        /** The offsets from the first to the last one, as far as a leg can start there. */
        private static long between(int first, int last) {
            int from = Math.max(first, 0);
            int to = Math.min(last, HORIZON - 1);
            return from > to ? 0L : (1L << to + 1) - (1L << from);
        }

        static int laneOf(int corridor, int direction, int layer) {
            return (corridor * DIRECTIONS + direction) * LAYERS + layer;
        }
    }

    /**
     * The search for best plans. It goes through the ticks from the one on from which the drone is planned.
     * A leg that could be taken has the number offset of its start * LANES + lane; for each one the least
     * energy until its end is kept, and the best leg before it. That suffices: what is behind a leg depends
     * on no more than its end, and less energy never forbids anything.
     */
    private static final class Search {
        private static final int NOWHERE = -2;

        /** What the last search that found a plan found. */
        int arrivalTime;
        int spent;
        int goal;
        private int lastLeg;

        private final Ways reserves = new Ways();
        private final Closures closures = new Closures();
        private final int[] taken = new int[HORIZON * LANES];
        private final int[] before = new int[HORIZON * LANES];
        /** For a node and a layer, the best leg that has ended there, and its energy less its end. */
        private final int[] waitingLeg = new int[MAX_NODES * LAYERS];
        private final int[] waitingEnergy = new int[MAX_NODES * LAYERS];
        /** The same for legs that start now on a layer: the best leg before them, and the energy until now. */
        private final int[] readyLeg = new int[MAX_NODES * LAYERS];
        private final int[] readyEnergy = new int[MAX_NODES * LAYERS];

        /** The nodes at which legs have ended. */
        private int reached;
        private int fromOffset;
        private int fromNode;
        private int fromLayer;
        private int energy;
        private boolean isLanded;

        /** Answers whether the drone can be planned to one of the goals; it finds the earliest, then lowest one. */
        boolean find(World world, int number, int goals, int heeded) {
            Drone one = world.droneAt(number);
            if (one == null || one.state == LOST) {
                return false;
            }
            setOut(one, world.time);
            if (holds(goals, fromNode)) {
                note(NONE, world.time + fromOffset, 0, fromNode);
                return true;
            }
            reserves.measure(world, world.pads, false);
            closures.openAll();
            if (heeded >= FENCES) {
                closures.closeFences(world);
            }
            if (heeded >= ALL_DRONES) {
                closures.closeOthers(world, number);
            }
            return searchFor(world, goals);
        }

        /** Makes the plan that was found that of the drone. */
        void applyTo(World world, Drone one) {
            one.cutLegs();
            writeLegs(world, one);
            one.destination = goal;
            if (lastLeg == NONE && one.state == HOVERING && holds(world.pads, goal)) {
                one.land();
            }
        }

        private void setOut(Drone one, int now) {
            Leg flown = one.state == FLYING ? one.legAt(0) : null;
            fromOffset = flown == null ? 0 : flown.end - now;
            fromNode = one.node;
            fromLayer = one.layer;
            energy = one.energy;
            isLanded = one.state == LANDED;
        }

        private void note(int leg, int time, int withEnergy, int node) {
            lastLeg = leg;
            arrivalTime = time;
            spent = withEnergy;
            goal = node;
        }

        private boolean searchFor(World world, int goals) {
            Arrays.fill(waitingLeg, NONE);
            reached = 0;
            for (int offset = Math.max(fromOffset, 0); offset <= HORIZON; offset++) {
                int ended = endLegs(world, offset);
                if ((ended & goals) != 0) {
                    arriveAt(world, offset, lowestOf(ended & goals));
                    return true;
                }
                reached |= ended;
                if (offset < HORIZON) {
                    getReady(world.nodeCount, offset);
                    startLegs(world, offset);
                }
            }
            return false;
        }

        private int energyOfLeg(int leg) {
            return leg >= 0 && leg < taken.length ? taken[leg] : NONE;
        }

        /** The number of a leg that can be taken and ends at the offset, or NONE. */
        private int legEndingAt(int offset, int length, int lane) {
            int start = offset - length;
            if (start < fromOffset) {
                return NONE;
            }
            int leg = start * LANES + lane;
            return energyOfLeg(leg) == NONE ? NONE : leg;
        }

        /** Lets the legs that end at the offset wait behind it, and answers the nodes at which they end. */
        private int endLegs(World world, int offset) {
            int ended = 0;
            for (int i = 0; i < world.corridorCount; i++) {
                Corridor way = world.corridorAt(i);
                if (way == null) {
                    continue;
                }
                for (int direction = 0; direction < DIRECTIONS; direction++) {
                    int slot = way.endOf(direction) * LAYERS;
                    for (int layer = 0; layer < LAYERS; layer++) {
                        int leg = legEndingAt(offset, way.length, Closures.laneOf(i, direction, layer));
                        if (leg != NONE) {
                            letWait(leg, slot + layer, energyOfLeg(leg) - offset);
                            ended |= 1 << way.endOf(direction);
                        }
                    }
                }
            }
            return ended;
        }

        private void letWait(int leg, int slot, int withEnergy) {
            if (slot < 0 || slot >= waitingLeg.length) {
                return;
            }
            int other = waitingLeg[slot];
            if (other != NONE && (withEnergy > waitingEnergy[slot]
                    || withEnergy == waitingEnergy[slot] && !isBetterBefore(leg, other))) {
                return;
            }
            waitingLeg[slot] = leg;
            waitingEnergy[slot] = withEnergy;
        }

        /** Compares legs that end at the same node on the same layer. */
        private static boolean isBetterBefore(int leg, int other) {
            int corridor = leg % LANES / (DIRECTIONS * LAYERS);
            int otherCorridor = other % LANES / (DIRECTIONS * LAYERS);
            return corridor < otherCorridor || corridor == otherCorridor && leg / LANES > other / LANES;
        }

        /** Notes the best of the legs that end at the node then. */
        private void arriveAt(World world, int offset, int node) {
            int best = NONE;
            // With the same energy the lower layer is better, then the lower corridor: these come first here.
            for (int layer = 0; layer < LAYERS; layer++) {
                for (int i = 0; i < world.corridorCount; i++) {
                    Corridor way = world.corridorAt(i);
                    if (way == null || way.first != node && way.second != node) {
                        continue;
                    }
                    int direction = way.second == node ? FORTH : BACK;
                    int leg = legEndingAt(offset, way.length, Closures.laneOf(i, direction, layer));
                    if (leg != NONE && (best == NONE || energyOfLeg(leg) < energyOfLeg(best))) {
                        best = leg;
                    }
                }
            }
            note(best, world.time + offset, energyOfLeg(best), node);
        }

        private void getReady(int nodeCount, int offset) {
            for (int node = 0; node < nodeCount && node < MAX_NODES; node++) {
                for (int layer = 0; layer < LAYERS; layer++) {
                    getReadyAt(node, layer, offset);
                }
            }
        }

        private void getReadyAt(int node, int layer, int offset) {
            int leg = NOWHERE;
            int least = FAR;
            if (node == fromNode) {
                leg = NONE;
                least = (isLanded ? 0 : offset - fromOffset) + Math.abs(layer - fromLayer);
            }
            for (int i = 0; i < LAYERS && holds(reached, node); i++) {
                int slot = node * LAYERS + i;
                if (slot < 0 || slot >= waitingLeg.length || waitingLeg[slot] == NONE) {
                    continue;
                }
                int one = waitingEnergy[slot] + offset + Math.abs(layer - i);
                // With the same energy, the plan without a leg before and the lower layer are better.
                if (one < least) {
                    leg = waitingLeg[slot];
                    least = one;
                }
            }
            int slot = node * LAYERS + layer;
            if (slot >= 0 && slot < readyLeg.length) {
                readyLeg[slot] = leg;
                readyEnergy[slot] = least;
            }
        }

        private void startLegs(World world, int offset) {
            for (int i = 0; i < world.corridorCount; i++) {
                Corridor way = world.corridorAt(i);
                for (int direction = 0; way != null && direction < DIRECTIONS; direction++) {
                    int most = energy - reserves.leastFrom(way.endOf(direction)) - way.energyOf(direction);
                    for (int layer = 0; layer < LAYERS; layer++) {
                        int lane = Closures.laneOf(i, direction, layer);
                        int slot = way.beginOf(direction) * LAYERS + layer;
                        boolean isOpen = !closures.isClosed(lane, offset);
                        startLeg(offset * LANES + lane, slot, way.energyOf(direction), isOpen ? most : NONE);
                    }
                }
            }
        }

        /** Takes a leg if no more energy than the most is taken before it. */
        private void startLeg(int leg, int slot, int flight, int most) {
            if (leg < 0 || leg >= taken.length || slot < 0 || slot >= readyLeg.length) {
                return;
            }
            if (readyLeg[slot] == NOWHERE || readyEnergy[slot] > most) {
                taken[leg] = NONE;
                return;
            }
            taken[leg] = readyEnergy[slot] + flight;
            before[leg] = readyLeg[slot];
        }

        private int legBefore(int leg) {
            return leg >= 0 && leg < before.length ? before[leg] : NONE;
        }

        private void writeLegs(World world, Drone one) {
            int found = 0;
            for (int leg = lastLeg; leg >= 0 && found < HORIZON; leg = legBefore(leg)) {
                found++;
            }
            int begun = one.legCount;
            one.growLegs(found);
            int leg = lastLeg;
            for (int i = begun + found - 1; i >= begun; i--) {
                writeLeg(leg, world, one.legAt(i));
                leg = legBefore(leg);
            }
        }

        private static void writeLeg(int number, World world, Leg leg) {
            int lane = number % LANES;
            Corridor way = world.corridorAt(lane / (DIRECTIONS * LAYERS));
            if (leg == null || way == null) {
                return;
            }
            leg.corridor = lane / (DIRECTIONS * LAYERS);
            leg.direction = lane / LAYERS % DIRECTIONS;
            leg.layer = lane % LAYERS;
            leg.start = world.time + number / LANES;
            leg.end = leg.start + way.length;
        }
    }

    /** The text that is not read yet. */
    private static final class Input {
        int length;
        private final char[] signs = new char[MAX_INPUT];

        void put(char sign) {
            if (length >= 0 && length < signs.length) {
                signs[length] = sign;
                length++;
            }
        }

        char signAt(int index) {
            return index >= 0 && index < length && index < signs.length ? signs[index] : ' ';
        }

        int digitAt(int index) {
            return signAt(index) - '0';
        }

        /** What follows the first sign of an entry: # for a node, + for a digit from 1, others for themselves. */
        String restOf(int index) {
            switch (signAt(index)) {
                case 'n':
                case 'p':
                    return ";";
                case 'c':
                    return "#-#*+;";
                case 'd':
                    return "#;";
                case 't':
                    return "+;";
                default:
                    return "";
            }
        }

        /** The error position, or NONE if the input is a text. */
        int findError() {
            for (int at = 0; at < length; at++) {
                String rest = restOf(at);
                if (rest.isEmpty()) {
                    return at;
                }
                for (int i = 0; i < rest.length(); i++) {
                    at++;
                    if (at >= length || !isLike(rest.charAt(i), signAt(at))) {
                        return at;
                    }
                }
            }
            return length == 0 ? 0 : NONE;
        }

        private static boolean isLike(char kind, char sign) {
            switch (kind) {
                case '#':
                    return sign >= '0' && sign <= '9';
                case '+':
                    return sign >= '1' && sign <= '9';
                default:
                    return sign == kind;
            }
        }
    }

    /** The worlds before the latest changes, in a ring with one place more, in which a change can be tried. */
    private static final class History {
        private static final int PLACES = MAX_REMEMBERED + 1;

        int size;
        private int oldest;
        private final World[] worlds = new World[PLACES];

        History() {
            for (int i = 0; i < worlds.length; i++) {
                worlds[i] = new World();
            }
        }

        void forget() {
            size = 0;
        }

        void remember(World world) {
            sketch(world);
            keep();
        }

        /** Notes the world before a change that may fail. */
        void sketch(World world) {
            World place = placeOf(size);
            if (place != null) {
                place.copy(world);
            }
        }

        /** Remembers what was sketched last. */
        void keep() {
            if (size < MAX_REMEMBERED) {
                size++;
            } else {
                oldest = (oldest + 1) % PLACES;
            }
        }

        /** Makes the world what was sketched last. */
        void takeBack(World world) {
            World place = placeOf(size);
            if (place != null) {
                world.copy(place);
            }
        }

        void stepBack(World world) {
            if (size > 0) {
                size--;
                takeBack(world);
            }
        }

        private World placeOf(int index) {
            int place = (oldest + index) % PLACES;
            return place >= 0 && place < worlds.length ? worlds[place] : null;
        }
    }
}
