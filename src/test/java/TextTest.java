/** Promises 35 to 38: append, read, errorPosition and describe. */
public final class TextTest {
    public static void main(String[] arguments) {
        appending();
        reading();
        errorPositions();
        refusedEntries();
        describing();
        Checks.end();
    }

    private static void appending() {
        DroneCorridors x = new DroneCorridors();
        Checks.noArgument("append of 31", () -> x.append((char) 31));
        Checks.noArgument("append of 127", () -> x.append((char) 127));
        Checks.noArgument("append of 0", () -> x.append((char) 0));
        Checks.noArgument("append of 65535", () -> x.append((char) 65535));
        Checks.same("append of 32", x.append(' '), 1);
        for (int length = 2; length <= 60; length++) {
            Checks.same("append of 126", x.append('~'), length);
        }
        Checks.noState("a character too many", () -> x.append('p'));
        Checks.noArgument("a wrong character too many", () -> x.append((char) 31));
        Checks.noElement("append is no change", x::undo);
        Checks.noArgument("read", x::read);
        Checks.same("the input is empty", x.append('p'), 1);
    }

    private static void reading() {
        DroneCorridors x = new DroneCorridors();
        Checks.write(x, "p;n;c1-0*9;d0;d1;t9;c0-1*1;");
        Checks.same("read", x.read(), 7);
        Checks.same("nodes", x.count(0), 2);
        Checks.isTrue("a pad", x.isPad(0));
        Checks.isTrue("no pad", !x.isPad(1));
        int[] corridor = {1, 0, 9, 0, 18, 18};
        for (int what = 0; what < corridor.length; what++) {
            Checks.same("corridor(0, " + what + ")", x.corridor(0, what), corridor[what]);
        }
        Checks.same("corridors", x.count(1), 2);
        Checks.same("a landed drone that gained", x.drone(0, 1), 127);
        Checks.same("a hovering drone that lost", x.drone(1, 1), 91);
        Checks.same("the time", x.count(4), 9);
        Checks.same("one change", x.undo(), 0);
        Checks.same("all is undone", x.count(0) + x.count(1) + x.count(2) + x.count(4), 0);
        Checks.noArgument("the input is empty", x::read);
        DroneCorridors y = new DroneCorridors();
        Checks.write(y, "n;n;n;n;n;n;n;n;n;n;t1;t1;t1;t1;t1;t1;t1;t1;t1;t1;t1;t1;t1;");
        Checks.same("59 characters", y.append(' '), 60);
        Checks.noArgument("read of 60 characters", y::read);
        Checks.same("error position", y.errorPosition(), 59);
        Checks.write(y, "n;n;n;n;n;n;n;n;n;n;c0-9*1;t1;t1;t1;t1;t1;t1;t1;t1;t1;t1;t1;");
        Checks.same("read of 60 characters", y.read(), 22);
        Checks.same("nodes", y.count(0), 10);
        Checks.same("time", y.count(4), 11);
    }

    private static void errorPositions() {
        String[] texts = {"", "n", "n;p", ";", "n;;", "x", "N;", "n ;", "p;c", "c1", "c1-", "c1-2", "c1-2*", "c1-2*3",
            "c-", "c11", "c1-x", "c1-22", "c1-2*0", "c1-2*33", "d", "d;", "d1", "d11;", "dx;", "t", "t0;", "t1", "t10;",
            "n;p;n;p;d5", "n;p;n;p;d5 ", "n;t1;t", "c1+2*3;", " n;", "c1-2*:;", "t:;", "d/;"};
        int[] want = {0, 1, 3, 0, 2, 0, 0, 1, 3, 2, 3, 4, 5, 6,
            1, 2, 3, 4, 5, 6, 1, 1, 2, 2, 1, 1, 1, 2, 2,
            10, 10, 6, 2, 0, 5, 1, 1};
        DroneCorridors x = new DroneCorridors();
        Checks.noElement("no error position", x::errorPosition);
        for (int i = 0; i < texts.length; i++) {
            Checks.write(x, texts[i]);
            Checks.noArgument("read of " + texts[i], x::read);
            Checks.same("error position of " + texts[i], x.errorPosition(), want[i]);
            Checks.same("nothing of " + texts[i] + " is done", x.count(0) + x.count(4), 0);
            Checks.write(x, "");
        }
        Checks.noElement("no change", x::undo);
        Checks.write(x, "n;");
        Checks.same("a right text", x.read(), 1);
        Checks.same("the error position stays", x.errorPosition(), 1);
        Checks.write(x, "d7;");
        Checks.noState("a text that cannot be done", x::read);
        Checks.same("the error position stays then", x.errorPosition(), 1);
        x.undo();
        Checks.same("undo keeps the error position", x.errorPosition(), 1);
        x.save();
        x.restore();
        Checks.same("restore keeps the error position", x.errorPosition(), 1);
    }

    private static void refused(DroneCorridors x, String text) {
        String before = Checks.look(x);
        Checks.write(x, text);
        Checks.noState("read of " + text, x::read);
        Checks.sameLook("read of " + text, Checks.look(x), before);
        Checks.noArgument("the input is empty then", x::read);
    }

    private static void refusedEntries() {
        DroneCorridors x = new DroneCorridors();
        refused(x, "d0;");
        refused(x, "p;n;d0;t9;c0-2*3;");
        refused(x, "p;n;d0;t9;c0-0*3;");
        refused(x, "p;n;d0;t9;d2;");
        refused(x, "p;p;p;p;p;p;p;p;p;p;p;");
        refused(x, "p;d0;d0;d0;d0;d0;d0;d0;");
        Checks.noElement("no change", x::undo);
        Checks.write(x, "p;n;d0;d1;");
        x.read();
        for (int corridor = 0; corridor < 15; corridor++) {
            x.addCorridor(0, 1, 2, 1);
        }
        x.plan(0, 1);
        x.addFence(0, 7, 0, 100);
        refused(x, "t3;c0-1*2;c0-1*2;");
        Checks.same("the corridors", x.count(1), 15);
        for (int time = 1; time <= 8; time++) {
            x.advance(1);
        }
        String end = Checks.look(x);
        refused(x, "n;t3;c0-1*2;c0-1*2;");
        for (int left = 7; left >= 0; left--) {
            Checks.same("a refused text loses no change", x.undo(), left);
            Checks.same("the time before the change", x.count(4), left);
        }
        Checks.same("nor does it change an older one", x.drone(0, 1), 100);
        x.advance(8);
        Checks.sameLook("the same ticks again", Checks.look(x), end);
        while (x.count(4) < 9992) {
            x.advance(x.count(4) < 9960 ? 40 : 8);
        }
        refused(x, "t9;");
        refused(x, "t8;t1;");
        Checks.write(x, "t8;");
        Checks.same("up to 10000", x.read(), 1);
        refused(x, "n;t1;");
    }

    private static void describing() {
        DroneCorridors x = new DroneCorridors();
        for (int node = 0; node < 10; node++) {
            x.addNode(false);
        }
        x.addCorridor(9, 0, 7, -5);
        x.addCorridor(2, 3, 1, 1);
        String[] texts = {"c9-0*7;", "c2-3*1;"};
        for (int corridor = 0; corridor < 2; corridor++) {
            Checks.same("the length", x.describe(corridor, -1), 7);
            for (int i = 0; i < 7; i++) {
                Checks.same("describe(" + corridor + ", " + i + ")", x.describe(corridor, i), texts[corridor].charAt(i));
            }
        }
        Checks.noIndex("describe of no corridor", () -> x.describe(2, 7));
        Checks.noIndex("describe of corridor -1", () -> x.describe(-1, -1));
        Checks.noElement("describe(0, 7)", () -> x.describe(0, 7));
        Checks.noElement("describe(0, -2)", () -> x.describe(0, -2));
    }
}
