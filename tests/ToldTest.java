/** Promises 1 to 10: a new object, texts, hooks, things, events. */
public final class ToldTest {
    public static void main(String[] args) {
        newObject();
        type();
        wipe();
        undo();
        fault();
        hook();
        thing();
        event();
        back();
        read();
        Checks.end();
    }

    private static void newObject() {
        BackHooks x = new BackHooks();
        for (int what = 0; what <= 8; what++) {
            Checks.due("1: new, count(" + what + ")", 0, x.count(what));
        }
        for (int s = 0; s < 4; s++) {
            Checks.due("1: new, lose(" + s + ")", Checks.NULL, x.lose(s));
        }
        Checks.due("1: new, forget()", 0, x.forget());
    }

    private static void type() {
        int[] limits = {12, 31};
        for (int text = 0; text < 2; text++) {
            BackHooks x = new BackHooks();
            Checks.due("2: type(" + text + ", -1)", BackHooks.BAD, x.type(text, -1));
            Checks.due("2: type(" + text + ", 256)", BackHooks.BAD, x.type(text, 256));
            for (int i = 1; i <= limits[text]; i++) {
                Checks.due("2: type(" + text + ")", i, x.type(text, i % 2 == 0 ? 0 : 255));
            }
            Checks.due("2: type when full", BackHooks.FULL, x.type(text, 'h'));
            Checks.due("2: bad ahead of full", BackHooks.BAD, x.type(text, 256));
            Checks.due("2: full adds nothing", limits[text], x.count(2 + text));
            Checks.due("2: the other text", 0, x.count(3 - text));
        }
        BackHooks x = new BackHooks();
        int[] none = {-1, 2, Integer.MIN_VALUE, Integer.MAX_VALUE};
        for (int text : none) {
            Checks.due("2: type(" + text + ", 'h')", BackHooks.BAD, x.type(text, 'h'));
            Checks.due("3: wipe(" + text + ")", BackHooks.BAD, x.wipe(text));
            Checks.due("4: undo(" + text + ")", BackHooks.BAD, x.undo(text));
            Checks.due("5: fault(" + text + ")", BackHooks.BAD, x.fault(text));
        }
    }

    private static void wipe() {
        BackHooks x = Checks.told("hsg", "m10;q22");
        Checks.due("3: wipe(1)", 7, x.wipe(1));
        Checks.due("3: things behind wipe(1)", 0, x.count(1));
        Checks.due("3: hooks behind wipe(1)", 3, x.count(0));
        Checks.due("3: wipe(0)", 3, x.wipe(0));
        Checks.due("3: hooks behind wipe(0)", 0, x.count(0));
        Checks.due("3: wipe(0) of an empty one", 0, x.wipe(0));
        Checks.due("3: a wiped text is typed anew", 1, x.type(0, 's'));
        Checks.due("3: its hook", 2, x.hook(0));
    }

    private static void undo() {
        BackHooks x = Checks.told("hx", "m10");
        Checks.due("4: undo(0)", 1, x.undo(0));
        Checks.due("4: the fault is gone", BackHooks.NONE, x.fault(0));
        Checks.due("4: hooks", 1, x.count(0));
        Checks.due("4: undo(0)", 0, x.undo(0));
        Checks.due("4: undo(0) of an empty one", BackHooks.NOT, x.undo(0));
        Checks.due("4: undo(1)", 2, x.undo(1));
        Checks.due("4: things", 0, x.count(1));
        Checks.due("4: bytes", 2, x.count(3));
    }

    private static void fault() {
        String[] hooks = {"", "h", "hsg", "hsghsghsghsg"};
        for (String text : hooks) {
            faultIs(0, text, BackHooks.NONE);
        }
        faultIs(0, "x", 0);
        faultIs(0, "H", 0);
        faultIs(0, "hsgi", 3);
        faultIs(0, "hhhhhhhhhhh;", 11);
        String[] things = {"", "m10", "w99", "q10;m55", "m10;m10;m10;m10;m10;m10;m10;m10"};
        for (String text : things) {
            faultIs(1, text, BackHooks.NONE);
        }
        faultIs(1, "m", 1);
        faultIs(1, "m1", 2);
        faultIs(1, "m10;", 4);
        faultIs(1, "m10;w", 5);
        faultIs(1, "m10;w9", 6);
        faultIs(1, "h", 0);
        faultIs(1, ";", 0);
        faultIs(1, "m00", 1);
        faultIs(1, "m:0", 1);
        faultIs(1, "m1/", 2);
        faultIs(1, "m1:", 2);
        faultIs(1, "m101", 3);
        faultIs(1, "m10;;", 4);
        faultIs(1, "m10;w20;q3x;m", 10);
        faultIs(1, "m10;m10;m10;m10;m10;m10;m10;m1", 30);
    }

    private static void faultIs(int text, String bytes, int want) {
        BackHooks x = new BackHooks();
        Checks.type(x, text, bytes);
        Checks.due("5: fault(" + text + ") of " + bytes, want, x.fault(text));
        int count = text == 0 ? bytes.length() : (bytes.length() + 1) / 4;
        Checks.due("37: count(" + text + ") of " + bytes, want == BackHooks.NONE ? count : 0, x.count(text));
        Checks.due("37: bytes of " + bytes, bytes.length(), x.count(2 + text));
    }

    private static void hook() {
        BackHooks x = Checks.told("hsg", "m10");
        int[] want = {1, 2, 0};
        for (int k = 0; k < 3; k++) {
            Checks.due("6: hook(" + k + ")", want[k], x.hook(k));
        }
        Checks.due("6: hook(-1)", BackHooks.BAD, x.hook(-1));
        Checks.due("6: hook(3)", BackHooks.BAD, x.hook(3));
        x.event(Checks.LEFT, 0, 1);
        Checks.due("6: hook(1) as told, though it is left", 2, x.hook(1));
        x.type(0, '!');
        Checks.due("6: hook(0) of a text with a fault", BackHooks.BAD, x.hook(0));
        BackHooks full = Checks.told("hhhhhhhhhhhs", "");
        Checks.due("6: hook(11)", 2, full.hook(11));
        Checks.due("6: hook(12)", BackHooks.BAD, full.hook(12));
    }

    private static void thing() {
        BackHooks x = Checks.told("h", "m19;w90;q55;m91;m91;m91;m91;w47");
        int[][] want = {{0, 1, 9}, {1, 9, 0}, {2, 5, 5}, {0, 9, 1}};
        for (int t = 0; t < want.length; t++) {
            for (int what = 0; what < 3; what++) {
                Checks.due("7: thing(" + t + ", " + what + ")", want[t][what], x.thing(t, what));
            }
        }
        Checks.due("7: thing(7, 1)", 4, x.thing(7, 1));
        Checks.due("7: thing(8, 0)", BackHooks.BAD, x.thing(8, 0));
        Checks.due("7: thing(-1, 0)", BackHooks.BAD, x.thing(-1, 0));
        Checks.due("7: thing(0, 3)", BackHooks.BAD, x.thing(0, 3));
        Checks.due("7: thing(0, -1)", BackHooks.BAD, x.thing(0, -1));
        x.undo(1);
        Checks.due("7: thing(0, 0) of a text with a fault", BackHooks.BAD, x.thing(0, 0));
    }

    private static void event() {
        int[][] bad = {{-1, 0, 0}, {3, 0, 0}, {0, -1, 0}, {0, 12, 0}, {0, 0, -1}, {0, 0, 12}, {1, 0, 12},
            {2, 0, -1}, {2, 0, 12}, {Integer.MAX_VALUE, 0, 0}, {0, Integer.MIN_VALUE, 0}, {1, 0, Integer.MAX_VALUE}};
        BackHooks x = new BackHooks();
        for (int[] b : bad) {
            Checks.due("8: event of a bad number", BackHooks.BAD, x.event(b[0], b[1], b[2]));
        }
        Checks.due("8: bad ones are none", 0, x.count(4));
        for (int i = 1; i <= 8; i++) {
            Checks.due("8: event " + i, i, x.event(i % 3, i % 2 == 0 ? 0 : 11, i % 2 == 0 ? 11 : 0));
        }
        Checks.due("8: a ninth event", BackHooks.FULL, x.event(0, 0, 0));
        Checks.due("8: bad ahead of full", BackHooks.BAD, x.event(0, 0, 12));
        Checks.due("8: events", 8, x.count(4));
    }

    private static void back() {
        BackHooks x = Checks.told("hh", "m30", Checks.MAID, 0, 0, Checks.LEFT, 0, 1);
        Checks.due("9: silent", 0, x.at(0, 0));
        Checks.due("9: back()", 1, x.back());
        Checks.due("9: silent yet", 0, x.at(0, 0));
        Checks.due("9: back()", 0, x.back());
        Checks.due("9: no maid", 2, x.at(0, 0));
        Checks.due("9: back() of none", BackHooks.NOT, x.back());
    }

    private static void read() {
        for (int form = 0; form < 3; form++) {
            BackHooks x = Checks.told("hhg", "m39");
            Checks.fill(x, 2, form, Checks.MAID, 0, 0, Checks.LEFT, 1, 2, Checks.FRONT, 2);
            Checks.due("10: read of two whole ones", 2, x.read(2));
            Checks.due("10: events", 2, x.count(4));
            Checks.due("10: evening 0", 0, x.at(0, 0));
            Checks.due("10: evening 1", 3, x.at(1, 0));
            Checks.due("10: the hook that is left in it", 0, x.said(1, 2));
            Checks.due("10: evening 2", 2, x.at(2, 0));
        }
        BackHooks x = new BackHooks();
        Checks.due("10: read(-1)", BackHooks.BAD, x.read(-1));
        Checks.due("10: read(4)", BackHooks.BAD, x.read(4));
        Checks.due("10: no finding by bad", 0, x.count(8));
        Checks.due("10: read of a lost one", Checks.NULL, x.read(3));
        Checks.due("10: its finding", 1, x.count(8));
        Checks.fill(x, 0, 2, 0, 0, 0, 0, 12, 0, 1, 1, 1);
        Checks.due("10: as long as each may be", 1, x.read(0));
        Checks.due("10: events", 1, x.count(4));
        x.sheet(0, 1, 60);
        Checks.due("10: seven come to the one there is", 7, x.read(0));
        Checks.due("10: events", 8, x.count(4));
        Checks.due("10: none more may be", 0, x.read(0));
        x.sheet(0, 1, 0);
        Checks.due("10: of no items", 0, x.read(0));
        x.back();
        x.sheet(0, 1, 2);
        Checks.due("10: none is whole", 0, x.read(0));
        Checks.due("10: events", 7, x.count(4));
    }
}
