/** Networks and wishes that the tests of single sentences share. */
final class Build {
    private Build() {
    }

    /** Nodes in a row: p for a pad, n for one that is none. */
    static DroneCorridors nodes(String kinds) {
        DroneCorridors x = new DroneCorridors();
        for (int i = 0; i < kinds.length(); i++) {
            x.addNode(kinds.charAt(i) == 'p');
        }
        return x;
    }

    /** Nodes with a corridor between each one and the next one, without wind. */
    static DroneCorridors chain(String kinds, int... lengths) {
        DroneCorridors x = nodes(kinds);
        for (int i = 0; i < lengths.length; i++) {
            x.addCorridor(i, i + 1, lengths[i], 0);
        }
        return x;
    }

    /** Closes layers of a corridor for all time. */
    static void close(DroneCorridors x, int corridor, int layers) {
        x.addFence(corridor, layers, 0, 10000);
    }

    /** Lets time pass up to a time. */
    static void passTo(DroneCorridors x, int time) {
        for (int left = time - x.count(4); left > 0; left -= 40) {
            x.advance(Math.min(left, 40));
        }
    }

    /** Compares the numbers of a drone, from its state on. */
    static void droneIs(String what, DroneCorridors x, int drone, int... want) {
        for (int i = 0; i < want.length; i++) {
            Checks.same(what + ": drone(" + drone + ", " + i + ")", x.drone(drone, i), want[i]);
        }
    }

    /** Compares the numbers of a leg, from its corridor on. */
    static void legIs(String what, DroneCorridors x, int drone, int index, int... want) {
        for (int i = 0; i < want.length; i++) {
            Checks.same(what + ": leg(" + drone + ", " + index + ", " + i + ")", x.leg(drone, index, i), want[i]);
        }
    }

    /** Compares the accounts of a drone, from the energy of legs on. */
    static void accountsAre(String what, DroneCorridors x, int drone, int... want) {
        for (int i = 0; i < want.length; i++) {
            Checks.same(what + ": account(" + drone + ", " + i + ")", x.account(drone, i), want[i]);
        }
    }
}
