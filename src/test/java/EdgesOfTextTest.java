/** The sentences of promises 35 to 38, and of "Text", that name an edge, one function each. */
public final class EdgesOfTextTest {
    private static final int LEAST = Integer.MIN_VALUE;
    private static final int MOST = Integer.MAX_VALUE;
    private static final String KINDS = "npcdt0123456789-*; x";

    public static void main(String[] arguments) {
        codesFromThirtyTwo();
        atMostSixtyCharacters();
        emptyInputIsNoText();
        inputIsEmptyAfterwards();
        entriesEndWithASemicolon();
        errorPositionsOfAllShortTexts();
        errorPositionsInLongTexts();
        errorPositionStays();
        nodesAndPads();
        corridorsWithoutWind();
        dronesWithAHundred();
        ticksOfOneDigit();
        entriesInTheirOrder();
        nothingOfARefusedText();
        refusedTextIsNoChange();
        textUpToTheLimits();
        charactersOfACorridor();
        describedTextCanBeRead();
        Checks.end();
    }

    private static void codesFromThirtyTwo() {
        DroneCorridors x = new DroneCorridors();
        int due = 0;
        for (int code = 0; code < 65536; code += code < 300 ? 1 : 257) {
            char sign = (char) code;
            if (code < 32 || code > 126) {
                Checks.noArgument("append of " + code, () -> x.append(sign));
            } else {
                due = due == 60 ? 1 : due + 1;
                Checks.same("append of " + code, x.append(sign), due);
                if (due == 60) {
                    Checks.noArgument("read", x::read);
                }
            }
        }
        Checks.noArgument("append of 65535", () -> x.append((char) 65535));
        Checks.same("the length stays", x.append(' '), due + 1);
    }

    private static void atMostSixtyCharacters() {
        DroneCorridors x = new DroneCorridors();
        for (int length = 1; length <= 60; length++) {
            Checks.same("append", x.append(length % 2 == 1 ? 'n' : ';'), length);
        }
        Checks.noState("the 61st", () -> x.append('n'));
        Checks.noState("the 61st, a semicolon", () -> x.append(';'));
        Checks.noArgument("the 61st, a wrong one", () -> x.append((char) 127));
        Checks.noState("30 nodes", x::read);
        Checks.same("room again", x.append('n'), 1);
        x.clear();
        Checks.same("clear keeps the input", x.append(';'), 2);
        Checks.same("read", x.read(), 1);
    }

    private static void emptyInputIsNoText() {
        DroneCorridors x = new DroneCorridors();
        Checks.noElement("no error position yet", x::errorPosition);
        Checks.noArgument("read of nothing", x::read);
        Checks.same("its length", x.errorPosition(), 0);
        Checks.noElement("no change", x::undo);
    }

    private static void inputIsEmptyAfterwards() {
        String[] texts = {"n;", "n", "d9;"};
        for (String text : texts) {
            DroneCorridors x = new DroneCorridors();
            Checks.write(x, text);
            try {
                x.read();
            } catch (IllegalArgumentException | IllegalStateException e) {
                Checks.isTrue("refused: " + text, !text.equals("n;"));
            }
            Checks.same("the input behind " + text, x.append('p'), 1);
        }
    }

    private static void entriesEndWithASemicolon() {
        String[] texts = {"n", "p", "c0-1*2", "d0", "t1", "n;n", "n;p", "n;n;c0-1*2", "n;d0", "n;t1"};
        for (String text : texts) {
            DroneCorridors x = new DroneCorridors();
            Checks.write(x, text);
            Checks.noArgument("read of " + text, x::read);
            Checks.same("error position of " + text, x.errorPosition(), text.length());
            Checks.same("nothing of " + text, x.count(0), 0);
        }
    }

    /** The place in an entry, told by the signs read so far: "" at its beginning, null where no text goes on. */
    private static String next(String entry, char sign) {
        boolean isDigit = sign >= '0' && sign <= '9';
        boolean isLength = isDigit && sign != '0';
        boolean isRight;
        if (entry.isEmpty()) {
            isRight = "npcdt".indexOf(sign) >= 0;
        } else if (entry.charAt(0) == 'c') {
            String[] wants = {"", "d", "-", "d", "*", "l", ";"};
            String want = wants[entry.length()];
            isRight = want.equals("d") ? isDigit : want.equals("l") ? isLength : want.charAt(0) == sign;
        } else if (entry.charAt(0) == 'd' || entry.charAt(0) == 't') {
            isRight = entry.length() == 1 ? (entry.charAt(0) == 'd' ? isDigit : isLength) : sign == ';';
        } else {
            isRight = sign == ';';
        }
        if (!isRight) {
            return null;
        }
        return sign == ';' ? "" : entry + sign;
    }

    /** The error position, or -1 for a text. */
    private static int errorOf(String text) {
        String entry = "";
        for (int i = 0; i < text.length(); i++) {
            entry = next(entry, text.charAt(i));
            if (entry == null) {
                return i;
            }
        }
        return text.isEmpty() || !entry.isEmpty() ? text.length() : -1;
    }

    private static void readOrError(DroneCorridors x, String text) {
        Checks.write(x, text);
        int want = errorOf(text);
        if (want >= 0) {
            Checks.noArgument("read of " + text, x::read);
            Checks.same("error position of " + text, x.errorPosition(), want);
        } else {
            int entries = 0;
            for (int i = 0; i < text.length(); i++) {
                entries += text.charAt(i) == ';' ? 1 : 0;
            }
            Checks.same("read of " + text, x.read(), entries);
        }
    }

    private static DroneCorridors eightNodes() {
        return Build.nodes("pnpnpnpn");
    }

    private static void errorPositionsOfAllShortTexts() {
        String[] beginnings = {"", "n;", "c", "c7", "c7-", "c7-2", "c7-2*", "c7-2*5", "c7-2*5;", "d", "d7", "t", "t9"};
        for (String beginning : beginnings) {
            for (int i = 0; i < KINDS.length(); i++) {
                for (int j = -1; j < KINDS.length(); j++) {
                    String text = beginning + KINDS.charAt(i) + (j < 0 ? "" : KINDS.charAt(j));
                    if (errorOf(text) >= 0) {
                        readOrError(eightNodes(), text);
                    }
                }
            }
        }
    }

    private static void errorPositionsInLongTexts() {
        String text = "n;p;c0-1*2;d0;t1;n;n;n;n;n;n;n;n;c5-9*9;d9;t1;t2;t3;t4;t5;";
        for (int length = 0; length <= text.length(); length++) {
            readOrError(new DroneCorridors(), text.substring(0, length));
        }
        for (int i = 0; i < text.length(); i++) {
            for (int kind = 0; kind < KINDS.length(); kind++) {
                String other = text.substring(0, i) + KINDS.charAt(kind) + text.substring(i + 1);
                if (errorOf(other) >= 0) {
                    readOrError(new DroneCorridors(), other);
                }
            }
        }
    }

    /** It stays until the next text that is not as told is read. */
    private static void errorPositionStays() {
        DroneCorridors x = new DroneCorridors();
        Checks.write(x, "n;n;x");
        Checks.noArgument("read", x::read);
        Checks.same("kept", x.errorPosition(), 4);
        Checks.same("asked again", x.errorPosition(), 4);
        Checks.write(x, "n;");
        x.read();
        Checks.same("behind a right text", x.errorPosition(), 4);
        Checks.write(x, "d9;");
        Checks.noState("read", x::read);
        Checks.same("behind a text that is refused", x.errorPosition(), 4);
        x.undo();
        x.save();
        x.restore();
        x.clear();
        Checks.same("behind undo, restore and clear", x.errorPosition(), 4);
        Checks.write(x, "q");
        Checks.same("before it is read", x.errorPosition(), 4);
        Checks.noArgument("read", x::read);
        Checks.same("the next one", x.errorPosition(), 0);
    }

    private static void nodesAndPads() {
        DroneCorridors x = new DroneCorridors();
        Checks.write(x, "n;p;p;n;");
        Checks.same("four entries", x.read(), 4);
        Checks.isTrue("n is none, p is a pad", !x.isPad(0) && x.isPad(1) && x.isPad(2) && !x.isPad(3));
    }

    private static void corridorsWithoutWind() {
        DroneCorridors x = Build.nodes("pnnnnnnnnn");
        for (int length = 1; length <= 9; length++) {
            Checks.write(x, "c" + length + "-0*" + length + ";");
            Checks.same("a corridor", x.read(), 1);
            int[] want = {length, 0, length, 0, 2 * length, 2 * length, 0};
            for (int what = 0; what < want.length; what++) {
                Checks.same("corridor(" + (length - 1) + ", " + what + ")", x.corridor(length - 1, what), want[what]);
            }
        }
        Checks.write(x, "c3-3*1;");
        Checks.noState("a corridor to the same node", x::read);
        Checks.same("nine corridors", x.count(1), 9);
    }

    private static void dronesWithAHundred() {
        DroneCorridors x = Build.nodes("pnnnnnnnnp");
        Checks.write(x, "d0;d9;d4;");
        Checks.same("three drones", x.read(), 3);
        Build.droneIs("at a pad", x, 0, 0, 100, 0, 0, -1, 0, 0);
        Build.droneIs("at the last pad", x, 1, 0, 100, 0, 9, -1, 0, 0);
        Build.droneIs("at a node", x, 2, 1, 100, 0, 4, -1, 0, 0);
        DroneCorridors y = Build.nodes("pnnnnnnnn");
        Checks.write(y, "d9;");
        Checks.noState("a drone at no node", y::read);
    }

    private static void ticksOfOneDigit() {
        DroneCorridors x = new DroneCorridors();
        int due = 0;
        for (int ticks = 1; ticks <= 9; ticks++) {
            Checks.write(x, "t" + ticks + ";");
            Checks.same("ticks", x.read(), 1);
            due += ticks;
            Checks.same("the time", x.count(4), due);
        }
        Checks.write(x, "t0;");
        Checks.noArgument("no ticks", x::read);
        Checks.same("error position", x.errorPosition(), 1);
        Checks.same("the time stays", x.count(4), due);
    }

    private static void entriesInTheirOrder() {
        DroneCorridors x = new DroneCorridors();
        Checks.write(x, "d0;p;");
        Checks.noState("a drone before its node", x::read);
        Checks.write(x, "p;c0-1*2;n;");
        Checks.noState("a corridor before its node", x::read);
        Checks.write(x, "p;t2;d0;t3;n;d1;t4;");
        Checks.same("seven entries", x.read(), 7);
        Checks.same("charged for 7 ticks", x.drone(0, 1), 121);
        Checks.same("hovering for 4 ticks", x.drone(1, 1), 96);
        Checks.same("the time", x.count(4), 9);
        x.addCorridor(0, 1, 3, 0);
        x.plan(0, 1);
        x.plan(1, 0);
        Checks.write(x, "t1;t2;");
        Checks.same("flying while a text is read", x.read(), 2);
        Checks.same("landed", x.drone(1, 0) * 10 + x.drone(1, 3), 0);
        Checks.same("hovering", x.drone(0, 0) * 10 + x.drone(0, 3), 11);
    }

    private static void nothingOfARefusedText() {
        String[] texts = {"p;n;c1-0*3;d8;t1;n;", "n;n;c0-9*1;c8-9*1;c7-9*1;c9-9*1;", "t9;n;n;n;",
            "d0;d1;d2;d3;d4;d5;", "c0-1*1;c0-1*2;c0-1*3;n;n;n;"};
        for (String text : texts) {
            DroneCorridors x = eightNodes();
            x.addCorridor(0, 1, 4, 2);
            x.addDrone(0, 60);
            x.plan(0, 1);
            x.advance(1);
            String before = Checks.look(x);
            Checks.write(x, text);
            Checks.noState("read of " + text, x::read);
            Checks.sameLook("read of " + text, Checks.look(x), before);
            x.advance(3);
            Build.droneIs("it flies on behind " + text, x, 0, 1, 54, 0, 1, 1, 0, 4);
        }
    }

    private static void refusedTextIsNoChange() {
        DroneCorridors x = new DroneCorridors();
        for (int i = 0; i < 10; i++) {
            x.addNode(true);
        }
        Checks.write(x, "d0;n;");
        Checks.noState("an eleventh node", x::read);
        Checks.write(x, "t1;x");
        Checks.noArgument("no text", x::read);
        for (int left = 7; left >= 0; left--) {
            Checks.same("undo", x.undo(), left);
            Checks.same("nodes", x.count(0), left + 2);
            Checks.same("drones and time", x.count(2) + x.count(4), 0);
        }
        Checks.noElement("no more", x::undo);
    }

    private static void textUpToTheLimits() {
        DroneCorridors x = new DroneCorridors();
        Checks.write(x, "p;n;n;n;n;n;n;n;n;p;d0;d1;d2;d3;d4;d9;");
        Checks.same("10 nodes and 6 drones", x.read(), 16);
        Checks.write(x, "d0;");
        Checks.noState("a seventh drone", x::read);
        Checks.write(x, "p;");
        Checks.noState("an eleventh node", x::read);
        Checks.write(x, "c0-9*1;c0-9*2;c0-9*3;c0-9*4;c0-9*5;c0-9*6;c0-9*7;c0-9*8;");
        Checks.same("8 corridors", x.read(), 8);
        Checks.write(x, "c0-9*1;c0-9*2;c0-9*3;c0-9*4;c0-9*5;c0-9*6;c0-9*7;");
        Checks.same("15 corridors", x.read(), 7);
        Checks.write(x, "c0-9*8;c0-9*9;");
        Checks.noState("a seventeenth corridor", x::read);
        Checks.same("still 15", x.count(1), 15);
        Checks.write(x, "c9-0*8;");
        Checks.same("16 corridors", x.read(), 1);
        Build.passTo(x, 9991);
        Checks.write(x, "t9;t1;");
        Checks.noState("up to 10001", x::read);
        Checks.same("the time stays", x.count(4), 9991);
        Checks.write(x, "t9;");
        Checks.same("up to 10000", x.read(), 1);
        Checks.same("the end of time", x.count(4), 10000);
        Checks.write(x, "t1;");
        Checks.noState("no tick more", x::read);
    }

    private static void charactersOfACorridor() {
        DroneCorridors x = Build.nodes("nnnnnnnnnn");
        x.addCorridor(9, 0, 9, -9);
        x.addCorridor(0, 9, 1, 1);
        String[] texts = {"c9-0*9;", "c0-9*1;"};
        int[] outside = {LEAST, -2, 7, 8, MOST};
        for (int corridor = 0; corridor < 2; corridor++) {
            int one = corridor;
            Checks.same("the length", x.describe(one, -1), texts[one].length());
            for (int i = 0; i < texts[one].length(); i++) {
                Checks.same("describe(" + one + ", " + i + ")", x.describe(one, i), texts[one].charAt(i));
            }
            for (int index : outside) {
                Checks.noElement("describe(" + one + ", " + index + ")", () -> x.describe(one, index));
                Checks.noIndex("describe(2, " + index + ")", () -> x.describe(2, index));
                Checks.noIndex("describe(-1, " + index + ")", () -> x.describe(-1, index));
            }
        }
        x.setWind(0, 3);
        Checks.same("whatever its wind is", x.describe(0, 5), '9');
    }

    private static void describedTextCanBeRead() {
        DroneCorridors x = Build.nodes("pnnnnnnnnn");
        for (int length = 1; length <= 9; length++) {
            x.addCorridor(length, 9 - length, length, 0);
        }
        for (int corridor = 0; corridor < 7; corridor++) {
            for (int i = 0; i < x.describe(corridor, -1); i++) {
                x.append((char) x.describe(corridor, i));
            }
            Checks.same("read", x.read(), 1);
            for (int what = 0; what < 6; what++) {
                Checks.same("the same corridor", x.corridor(9 + corridor, what), x.corridor(corridor, what));
            }
        }
    }
}
