/** The sentences of promises 39 to 41, and of "History", that name an edge, one function each. */
public final class EdgesOfHistoryTest {
    interface Change {
        void make(DroneCorridors x);
    }

    public static void main(String[] arguments) {
        nothingToUndo();
        atMostEightChanges();
        oldestIsForgottenForGood();
        ringOfManyChanges();
        changesWithoutADifference();
        questionsAreNoChanges();
        savingIsNoChange();
        undoIsNoChange();
        readIsOneChange();
        clearForgets();
        restoreForgets();
        refusedRestoreForgetsNothing();
        reasonIsNotRemembered();
        inputIsNotRemembered();
        errorPositionIsNotRemembered();
        whatWasSavedIsNotRemembered();
        undoBringsBackAll();
        savedStaysSaved();
        savedIsReplaced();
        savedByALaterObjectStays();
        Checks.end();
    }

    private static void undoAll(String what, DroneCorridors x, int changes) {
        for (int left = changes - 1; left >= 0; left--) {
            Checks.same(what + ": undo", x.undo(), left);
        }
        Checks.noElement(what + ": no more", x::undo);
    }

    private static void nothingToUndo() {
        DroneCorridors x = new DroneCorridors();
        Checks.noElement("a new object", x::undo);
        x.addNode(true);
        Checks.same("one change", x.undo(), 0);
        Checks.noElement("none is left", x::undo);
        Checks.same("a node again", x.addNode(true), 0);
        Checks.same("one change again", x.undo(), 0);
    }

    private static void atMostEightChanges() {
        for (int changes = 1; changes <= 12; changes++) {
            DroneCorridors x = new DroneCorridors();
            for (int i = 0; i < changes; i++) {
                x.advance(i + 1);
            }
            undoAll(changes + " changes", x, Math.min(changes, 8));
            int first = changes - 8;
            Checks.same("the time before them", x.count(4), first <= 0 ? 0 : first * (first + 1) / 2);
        }
    }

    private static void oldestIsForgottenForGood() {
        DroneCorridors x = new DroneCorridors();
        for (int i = 0; i < 9; i++) {
            x.advance(1);
        }
        Checks.same("undo of the ninth", x.undo(), 7);
        Checks.same("undo of the eighth", x.undo(), 6);
        undoAll("no other one comes back", x, 6);
        Checks.same("the time behind the first", x.count(4), 1);
    }

    private static void ringOfManyChanges() {
        DroneCorridors x = new DroneCorridors();
        int remembered = 0;
        int[] times = new int[400];
        int depth = 0;
        for (int step = 0; step < 300; step++) {
            boolean isBack = remembered > 0 && (step * 7 + step / 5) % 3 == 0;
            if (isBack) {
                remembered--;
                depth--;
                Checks.same("step " + step + ": undo", x.undo(), remembered);
            } else {
                x.advance(1 + step % 9);
                times[depth + 1] = times[depth] + 1 + step % 9;
                depth++;
                remembered = Math.min(remembered + 1, 8);
            }
            Checks.same("step " + step + ": the time", x.count(4), times[depth]);
        }
        undoAll("at the end", x, remembered);
    }

    private static DroneCorridors scene() {
        DroneCorridors x = Build.chain("pnp", 3, 2);
        x.addDrone(0, 100);
        x.addDrone(1, 100);
        x.addDrone(0, 1);
        x.plan(0, 2);
        x.advance(1);
        x.addFence(1, 7, 100, 200);
        x.drain(2, 4);
        x.drain(0, 200);
        x.save();
        x.restore();
        return x;
    }

    private static void isChange(String what, Change change) {
        DroneCorridors x = scene();
        String before = Checks.look(x);
        x.advance(1);
        x.undo();
        Checks.noElement(what + ": nothing is remembered", x::undo);
        change.make(x);
        Checks.same(what + " is a change", x.undo(), 0);
        Checks.sameLook("undo of " + what, Checks.look(x), before);
    }

    /** Also if nothing is different then. */
    private static void changesWithoutADifference() {
        isChange("setWind to the same", x -> x.setWind(0, 0));
        isChange("reroute of none", x -> x.reroute());
        isChange("cancel of nothing", x -> x.cancel(2));
        isChange("cancel of nothing twice", x -> x.cancel(1));
        isChange("drain of a landed one with 0", x -> Checks.same("drained", x.drain(2, 1), 0));
        isChange("drain of a flying one with 1", x -> Checks.same("drained", x.drain(0, 1), 1));
        isChange("plan to where it is", x -> x.plan(1, 1));
        isChange("plan to where it is, landed", x -> x.plan(2, 0));
        isChange("addNode", x -> x.addNode(false));
        isChange("addCorridor", x -> x.addCorridor(0, 1, 1, 0));
        isChange("addDrone", x -> x.addDrone(0, 1));
        isChange("addFence", x -> x.addFence(0, 1, 0, 1));
        isChange("removeFence", x -> x.removeFence(0));
        isChange("advance", x -> x.advance(40));
        isChange("read", x -> {
            Checks.write(x, "n;");
            x.read();
        });
        isChange("read of 9 entries", x -> {
            Checks.write(x, "n;p;c3-4*1;d3;d4;t9;t9;t9;t9;");
            x.read();
        });
    }

    private static void questionsAreNoChanges() {
        DroneCorridors x = scene();
        x.advance(1);
        String before = Checks.look(x);
        x.fence(0, 0);
        x.corridor(0, 0);
        x.isPad(0);
        x.reserve(0);
        x.ticksBetween(0, 1);
        x.count(0);
        x.drone(0, 0);
        x.arrival(1, 2);
        x.planEnergy(1, 2);
        x.leg(0, 0, 0);
        x.struck();
        x.nearestPad(1);
        x.low();
        x.placeAfter(0, 40);
        x.pairs(true);
        x.uses(0, -1);
        x.account(0, 0);
        x.audit();
        x.flyingShare();
        x.busiest();
        x.describe(0, -1);
        x.append('x');
        Checks.noArgument("read", x::read);
        x.errorPosition();
        Checks.sameLook("questions", Checks.look(x), before);
        Checks.same("only the change before", x.undo(), 0);
    }

    private static void savingIsNoChange() {
        DroneCorridors x = new DroneCorridors();
        x.advance(1);
        x.save();
        x.save();
        undoAll("save is no change", x, 1);
    }

    private static void undoIsNoChange() {
        DroneCorridors x = new DroneCorridors();
        x.advance(1);
        x.advance(2);
        x.advance(3);
        Checks.same("undo", x.undo(), 2);
        Checks.same("undo", x.undo(), 1);
        Checks.same("the time", x.count(4), 1);
        x.advance(5);
        Checks.same("undo of a change behind undo", x.undo(), 1);
        Checks.same("the time", x.count(4), 1);
        Checks.same("undo of the first", x.undo(), 0);
        Checks.same("the time", x.count(4), 0);
    }

    private static void readIsOneChange() {
        DroneCorridors x = new DroneCorridors();
        Checks.write(x, "n;n;n;n;n;n;n;n;n;n;t1;t2;t3;");
        Checks.same("13 entries", x.read(), 13);
        Checks.same("one change", x.undo(), 0);
        Checks.same("nodes and time", x.count(0) + x.count(4), 0);
        for (int i = 0; i < 9; i++) {
            Checks.write(x, "n;");
            x.read();
        }
        undoAll("nine texts", x, 8);
        Checks.same("the first one stays", x.count(0), 1);
    }

    private static void clearForgets() {
        DroneCorridors x = scene();
        x.advance(1);
        x.advance(1);
        x.clear();
        Checks.noElement("clear forgets all changes", x::undo);
        x.addNode(true);
        undoAll("behind clear", x, 1);
        Checks.same("no nodes", x.count(0), 0);
    }

    private static void restoreForgets() {
        DroneCorridors x = scene();
        x.advance(1);
        x.advance(1);
        x.restore();
        Checks.noElement("restore forgets all changes", x::undo);
        x.advance(1);
        undoAll("behind restore", x, 1);
    }

    private static void refusedRestoreForgetsNothing() {
        DroneCorridors x = new DroneCorridors();
        x.advance(1);
        Checks.noState("nothing was saved", x::restore);
        undoAll("the change is remembered", x, 1);
        Checks.noState("still nothing was saved", x::restore);
        x.clear();
        Checks.noState("nor by clear", x::restore);
    }

    private static void reasonIsNotRemembered() {
        DroneCorridors x = Build.chain("pnn", 2);
        x.addDrone(0, 100);
        x.addDrone(0, 1);
        Checks.noPlan("no reserve", () -> x.plan(0, 2));
        x.save();
        x.advance(1);
        Checks.noPlan("no energy", () -> x.plan(1, 1));
        x.undo();
        Checks.same("undo keeps the reason", x.reason(), 3);
        x.restore();
        Checks.same("restore keeps the reason", x.reason(), 3);
        x.clear();
        Checks.same("clear keeps the reason", x.reason(), 3);
    }

    private static void inputIsNotRemembered() {
        DroneCorridors x = new DroneCorridors();
        x.append('n');
        x.save();
        x.advance(1);
        x.append(';');
        x.undo();
        Checks.same("undo keeps the input", x.append('p'), 3);
        x.restore();
        Checks.same("restore keeps the input", x.append(';'), 4);
        Checks.same("read", x.read(), 2);
        x.undo();
        Checks.same("undo of read does not bring it back", x.append('n'), 1);
    }

    private static void errorPositionIsNotRemembered() {
        DroneCorridors x = new DroneCorridors();
        x.save();
        x.advance(1);
        Checks.write(x, "n;x");
        Checks.noArgument("read", x::read);
        x.undo();
        Checks.same("undo keeps it", x.errorPosition(), 2);
        x.restore();
        Checks.same("restore keeps it", x.errorPosition(), 2);
    }

    private static void whatWasSavedIsNotRemembered() {
        DroneCorridors x = new DroneCorridors();
        x.addNode(true);
        x.save();
        x.addNode(true);
        x.addNode(true);
        x.save();
        x.undo();
        x.undo();
        x.undo();
        Checks.same("no nodes", x.count(0), 0);
        Checks.same("what was saved last", x.restore(), 3);
    }

    private static void undoBringsBackAll() {
        DroneCorridors x = scene();
        String before = Checks.look(x);
        x.addNode(true);
        x.addCorridor(1, 3, 1, 1);
        x.setWind(0, 3);
        x.addDrone(3, 200);
        x.removeFence(0);
        x.plan(0, 3);
        x.advance(9);
        x.clear();
        x.restore();
        Checks.sameLook("restore", Checks.look(x), before);
        x.addNode(true);
        x.addCorridor(1, 3, 1, 1);
        x.setWind(0, 3);
        x.addDrone(3, 200);
        x.addFence(2, 7, 0, 1);
        x.removeFence(0);
        x.plan(1, 3);
        x.advance(9);
        undoAll("eight changes", x, 8);
        Checks.sameLook("undo of all", Checks.look(x), before);
        Checks.same("the accounts add up", x.audit(), 0);
    }

    private static void savedStaysSaved() {
        DroneCorridors x = scene();
        String saved = Checks.look(x);
        for (int i = 0; i < 5; i++) {
            x.advance(i + 1);
            x.cancel(0);
            x.clear();
            Checks.same("restore", x.restore(), 3);
            Checks.sameLook("restore " + i, Checks.look(x), saved);
        }
        x.drain(1, 200);
        x.restore();
        Checks.sameLook("changes do not reach what was saved", Checks.look(x), saved);
    }

    private static void savedIsReplaced() {
        DroneCorridors x = new DroneCorridors();
        for (int nodes = 0; nodes <= 10; nodes++) {
            Checks.same("save", x.save(), nodes);
            if (nodes < 10) {
                x.addNode(nodes % 2 == 0);
            }
        }
        x.clear();
        Checks.same("the last one", x.restore(), 10);
        Checks.isTrue("its pads", x.isPad(0) && !x.isPad(9));
        x.clear();
        Checks.same("save of nothing", x.save(), 0);
        x.addNode(true);
        Checks.same("restore of nothing", x.restore(), 0);
        Checks.same("no nodes", x.count(0), 0);
    }

    private static void savedByALaterObjectStays() {
        DroneCorridors x = Build.nodes("pn");
        x.save();
        DroneCorridors y = Build.nodes("p");
        Checks.noState("another object has saved nothing", y::restore);
        y.save();
        Checks.same("each one its own", x.restore() * 10 + y.restore(), 21);
    }
}
