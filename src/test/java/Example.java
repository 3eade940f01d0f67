/** The example of README.md, which ReadmeTest compares with it. */
public final class Example {
    public static void main(String[] arguments) {
        DroneCorridors x = new DroneCorridors();
        int home = x.addNode(true);                     // a pad
        int far = x.addNode(false);
        int way = x.addCorridor(home, far, 3, 1);       // 3 ticks long, wind 1 towards far
        int drone = x.addDrone(home, 100);              // landed, with the energy 100

        System.out.println("far at " + x.plan(drone, far));
        x.advance(3);
        System.out.println("energy " + x.drone(drone, 1));
        System.out.println("home at " + x.plan(drone, home));

        System.out.println("struck " + x.addFence(way, 7, 3, 10));      // a set: bit k for drone k
        System.out.println("rerouted " + x.reroute());
        System.out.println("home at " + x.drone(drone, 6));
        x.undo();                                       // takes back reroute
        x.undo();                                       // takes back addFence
        System.out.println("struck " + x.struck() + ", home at " + x.drone(drone, 6));

        type(x, "n;p;c2-3*4;t5;");
        System.out.println("entries " + x.read() + ", time " + x.count(4) + ", landed " + x.count(5));

        x.save();
        try {
            x.plan(drone, 2);
        } catch (UnsupportedOperationException refused) {
            System.out.println("reason " + x.reason());
        }
        x.clear();
        System.out.println("nodes " + x.restore());
    }

    private static void type(DroneCorridors x, String text) {
        for (int i = 0; i < text.length(); i++) {
            x.append(text.charAt(i));
        }
    }
}
