/** Promises 39 to 41: undo, save and restore. */
public final class HistoryTest {
    interface Change {
        void make(DroneCorridors x);
    }

    public static void main(String[] arguments) {
        everyChange();
        noChanges();
        atMostEight();
        forgetting();
        saving();
        savingAll();
        fencesComeBack();
        nothingOfOldDrones();
        Checks.end();
    }

    private static DroneCorridors rich() {
        DroneCorridors x = new DroneCorridors();
        Checks.write(x, "p;n;p;n;c0-1*3;c1-2*2;c2-3*4;d0;d0;d1;d2;");
        x.read();
        x.plan(0, 2);
        x.plan(3, 1);
        x.advance(1);
        x.drain(1, 5);
        x.plan(1, 3);
        x.addFence(0, 1, 50, 60);
        return x;
    }

    private static void undone(String what, Change change) {
        DroneCorridors x = rich();
        String before = Checks.look(x);
        change.make(x);
        Checks.same(what + " is a change, with 7 before it", x.undo(), 7);
        Checks.sameLook("undo of " + what, Checks.look(x), before);
        x.advance(1);
        DroneCorridors y = rich();
        y.advance(1);
        Checks.sameLook("a tick behind undo of " + what, Checks.look(x), Checks.look(y));
        String end = Checks.look(x);
        change.make(x);
        x.undo();
        Checks.sameLook("undo of a later " + what, Checks.look(x), end);
    }

    private static void everyChange() {
        undone("addNode", x -> x.addNode(true));
        undone("addCorridor", x -> x.addCorridor(3, 0, 5, -2));
        undone("setWind", x -> x.setWind(1, 2));
        undone("setWind to the same", x -> x.setWind(1, 0));
        undone("addDrone", x -> x.addDrone(2, 77));
        undone("addFence", x -> x.addFence(1, 7, 0, 100));
        undone("removeFence", x -> x.removeFence(0));
        undone("plan", x -> x.plan(1, 2));
        undone("plan of a flying one", x -> x.plan(0, 1));
        undone("plan to where it is", x -> x.plan(1, 0));
        undone("cancel", x -> x.cancel(1));
        undone("cancel of nothing", x -> x.cancel(2));
        undone("reroute", x -> x.reroute());
        undone("drain", x -> x.drain(2, 200));
        undone("advance", x -> x.advance(13));
        undone("read", x -> {
            Checks.write(x, "n;p;c4-5*2;d4;t9;");
            x.read();
        });
        DroneCorridors x = rich();
        x.addFence(1, 7, 0, 100);
        String before = Checks.look(x);
        Checks.same("struck drones that keep their destination", x.reroute(), 0);
        x.undo();
        Checks.sameLook("undo of a reroute that changes", Checks.look(x), before);
    }

    private static void noChanges() {
        DroneCorridors x = new DroneCorridors();
        x.addNode(true);
        x.addNode(false);
        x.addCorridor(0, 1, 9, 0);
        x.addDrone(1, 5);
        Checks.noState("drain of a lost one", () -> {
            x.drain(0, 5);
            return x.drain(0, 5);
        });
        Checks.noPlan("plan", () -> x.plan(0, 1));
        Checks.noArgument("setWind", () -> x.setWind(0, 10));
        Checks.noArgument("advance", () -> x.advance(0));
        Checks.noIndex("removeFence", () -> x.removeFence(0));
        Checks.noArgument("read", x::read);
        x.append('d');
        x.append('9');
        x.append(';');
        Checks.noState("read", x::read);
        x.save();
        x.count(0);
        x.placeAfter(0, 9);
        Checks.same("five changes", x.undo(), 4);
        Checks.same("the drone is back", x.drone(0, 1), 5);
    }

    private static void atMostEight() {
        DroneCorridors x = new DroneCorridors();
        x.addNode(true);
        for (int tick = 1; tick <= 20; tick++) {
            x.advance(1);
        }
        for (int left = 7; left >= 0; left--) {
            Checks.same("undo", x.undo(), left);
            Checks.same("the time", x.count(4), 12 + left);
        }
        Checks.noElement("the ninth", x::undo);
        Checks.same("the time stays", x.count(4), 12);
        for (int tick = 1; tick <= 5; tick++) {
            x.advance(1);
        }
        Checks.same("undo", x.undo(), 4);
        x.advance(3);
        Checks.same("undo behind undo", x.undo(), 4);
        Checks.same("the time", x.count(4), 16);
        for (int left = 3; left >= 0; left--) {
            Checks.same("undo", x.undo(), left);
        }
        Checks.same("the time", x.count(4), 12);
        Checks.noElement("no more", x::undo);
    }

    private static void forgetting() {
        DroneCorridors x = rich();
        x.save();
        x.restore();
        Checks.noElement("restore forgets the changes", x::undo);
        x.advance(1);
        x.clear();
        Checks.noElement("clear forgets the changes", x::undo);
        x.addNode(true);
        Checks.same("undo to the empty one", x.undo(), 0);
        Checks.same("no nodes", x.count(0), 0);
        x.append('p');
        x.addNode(true);
        x.undo();
        Checks.same("undo keeps the input", x.append(';'), 2);
        x.save();
        x.restore();
        Checks.same("restore keeps the input", x.append('n'), 3);
    }

    /** What was saved comes back over a network, drones and fences that are all different. */
    private static void savingAll() {
        DroneCorridors x = rich();
        x.addFence(1, 2, 70, 80);
        x.save();
        String saved = Checks.look(x);
        x.clear();
        Checks.write(x, "n;p;n;p;p;c3-2*7;c4-0*1;c0-1*9;t9;");
        x.read();
        for (int i = 0; i < 6; i++) {
            x.addDrone(4 - i % 5, 200 - i);
        }
        x.plan(0, 1);
        x.plan(1, 2);
        x.addFence(2, 5, 1, 2);
        x.addFence(0, 3, 4, 5);
        x.advance(3);
        x.restore();
        Checks.sameLook("restore over another network", Checks.look(x), saved);
        Checks.isTrue("its pads", x.isPad(0) && !x.isPad(1) && x.isPad(2) && !x.isPad(3));
        DroneCorridors y = rich();
        y.addFence(1, 2, 70, 80);
        x.advance(9);
        y.advance(9);
        Checks.sameLook("nine ticks behind it", Checks.look(x), Checks.look(y));
    }

    private static void fencesComeBack() {
        DroneCorridors x = rich();
        x.addFence(1, 7, 30, 40);
        x.addFence(2, 3, 31, 41);
        String before = Checks.look(x);
        x.removeFence(0);
        x.undo();
        Checks.sameLook("undo of removeFence of the first", Checks.look(x), before);
        x.removeFence(1);
        x.undo();
        Checks.sameLook("undo of removeFence of the second", Checks.look(x), before);
    }

    private static void nothingOfOldDrones() {
        DroneCorridors x = rich();
        x.addFence(1, 3, 0, 100);
        x.addFence(0, 3, 0, 100);
        x.plan(2, 0);
        x.advance(2);
        x.drain(2, 20);
        Checks.same("a used drone on layer 2", x.drone(2, 2), 2);
        DroneCorridors y = new DroneCorridors();
        x.clear();
        for (int i = 0; i < 4; i++) {
            x.addNode(i == 3);
            y.addNode(i == 3);
            x.addDrone(i, 9);
            y.addDrone(i, 9);
        }
        Checks.sameLook("drones behind clear", Checks.look(x), Checks.look(y));
    }

    private static void saving() {
        DroneCorridors x = rich();
        Checks.noState("nothing is saved", x::restore);
        Checks.same("save", x.save(), 4);
        String saved = Checks.look(x);
        x.advance(4);
        x.addNode(false);
        x.undo();
        x.addNode(false);
        x.addFence(1, 7, 0, 100);
        x.reroute();
        Checks.same("restore", x.restore(), 4);
        Checks.sameLook("restore", Checks.look(x), saved);
        x.advance(40);
        x.clear();
        Checks.same("restore again", x.restore(), 4);
        Checks.sameLook("restore again", Checks.look(x), saved);
        x.addNode(true);
        Checks.same("save of five nodes", x.save(), 5);
        x.undo();
        Checks.same("undo keeps what was saved", x.restore(), 5);
        x.clear();
        Checks.same("save of nothing", x.save(), 0);
        x.addNode(true);
        Checks.same("restore of nothing", x.restore(), 0);
        Checks.same("no nodes", x.count(0), 0);
    }
}
