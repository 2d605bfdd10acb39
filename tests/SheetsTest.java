/** Promises 31 to 38: sheets, write, count, digest. */
public final class SheetsTest {
    private static final int BAD = BackHooks.BAD, LEAST = Integer.MIN_VALUE;
    private static final int NULL = Checks.NULL, INDEX = Checks.INDEX, CAST = Checks.CAST;
    private static final int[] NO_SHEET = {-1, 4, Integer.MIN_VALUE, Integer.MAX_VALUE};

    public static void main(String[] args) {
        sheet();
        lose();
        putAndGet();
        lowestBits();
        copy();
        copyWithinOne();
        copyRefused();
        write();
        count();
        findingsChangeNothingElse();
        digest();
        Checks.end();
    }

    private static void found(BackHooks x, int number) {
        Checks.due("37: count(8)", number, x.count(8));
    }

    private static void sheet() {
        BackHooks x = new BackHooks();
        for (int s : NO_SHEET) {
            Checks.due("31: sheet(" + s + ", 0, -1)", BAD, x.sheet(s, 0, -1));
        }
        Checks.due("31: sheet of no form", BAD, x.sheet(0, -1, -1));
        Checks.due("31: sheet of no form", BAD, x.sheet(0, 3, 1));
        Checks.due("31: sheet of 61", BAD, x.sheet(0, 0, 61));
        Checks.due("31: sheet of the most", BAD, x.sheet(0, 0, Integer.MAX_VALUE));
        found(x, 0);
        Checks.due("31: sheet(0, 0, -1)", Checks.SIZE, x.sheet(0, 0, -1));
        found(x, 5);
        Checks.due("31: a refused one is lost yet", NULL, x.lose(0));
        Checks.due("31: sheet(0, 0, 0)", 0, x.sheet(0, 0, 0));
        Checks.due("31: sheet(3, 2, 60)", 60, x.sheet(3, 2, 60));
        Checks.due("31: its last item at first", 0, x.get(3, 2, 59));
        x.put(3, 2, 5, 7);
        Checks.due("31: one below 0 leaves it", Checks.SIZE, x.sheet(3, 2, LEAST));
        Checks.due("31: one below 0 leaves it", 7, x.get(3, 2, 5));
        Checks.due("31: a new row", 10, x.sheet(3, 2, 10));
        Checks.due("31: is 0 at first", 0, x.get(3, 2, 5));
        Checks.due("31: a new row of another form", 60, x.sheet(3, 0, 60));
        Checks.due("31: is of that form", 1, x.put(3, 0, 59, 1));
    }

    private static void lose() {
        BackHooks x = new BackHooks();
        for (int s : NO_SHEET) {
            Checks.due("32: lose(" + s + ")", BAD, x.lose(s));
        }
        found(x, 0);
        x.sheet(1, 1, 17);
        Checks.due("32: lose(1)", 17, x.lose(1));
        Checks.due("32: lose(1) once more", NULL, x.lose(1));
        found(x, 1);
        x.sheet(1, 1, 0);
        Checks.due("32: lose(1) of no items", 0, x.lose(1));
        Checks.due("32: it is lost", NULL, x.put(1, 1, 0, 0));
    }

    private static void putAndGet() {
        BackHooks x = new BackHooks();
        for (int s : NO_SHEET) {
            Checks.due("33: put(" + s + ")", BAD, x.put(s, 0, 0, 0));
            Checks.due("34: get(" + s + ")", LEAST, x.get(s, 0, 0));
        }
        int[] noForm = {-1, 3, LEAST, Integer.MAX_VALUE};
        for (int form : noForm) {
            Checks.due("33: bad ahead of null", BAD, x.put(0, form, 0, 0));
            Checks.due("34: bad ahead of null", LEAST, x.get(0, form, 0));
        }
        found(x, 0);
        Checks.due("33: put of a lost one", NULL, x.put(0, 0, -1, 0));
        found(x, 1);
        x.sheet(0, 1, 3);
        Checks.due("33: cast ahead of index", CAST, x.put(0, 0, 3, 0));
        found(x, 3);
        Checks.due("33: cast", CAST, x.put(0, 2, 0, 0));
        int[] noItem = {-1, 3, LEAST, Integer.MAX_VALUE};
        for (int i : noItem) {
            Checks.due("33: put of item " + i, INDEX, x.put(0, 1, i, 0));
            found(x, 2);
        }
        Checks.due("34: get of a lost one", LEAST, x.get(1, 1, 0));
        found(x, 1);
        Checks.due("34: cast ahead of index", LEAST, x.get(0, 2, 3));
        found(x, 3);
        Checks.due("34: get of item 3", LEAST, x.get(0, 1, 3));
        found(x, 2);
        Checks.due("33: put(0, 1, 2, 5)", 1, x.put(0, 1, 2, 5));
        Checks.due("34: get(0, 1, 2)", 5, x.get(0, 1, 2));
        Checks.due("34: get(0, 1, 1)", 0, x.get(0, 1, 1));
        found(x, 2);
    }

    private static void lowestBits() {
        int[] told = {127, 128, 255, 256, -129, 32767, 32768, 65535, 65536, LEAST, Integer.MAX_VALUE, 0x12345678};
        BackHooks x = new BackHooks();
        for (int form = 0; form < 3; form++) {
            x.sheet(form, form, 1);
        }
        for (int v : told) {
            for (int form = 0; form < 3; form++) {
                Checks.due("33: put", 1, x.put(form, form, 0, v));
            }
            Checks.due("33: a byte of " + v, (byte) v, x.get(0, 0, 0));
            Checks.due("33: a short of " + v, (short) v, x.get(1, 1, 0));
            Checks.due("33: an int of " + v, v, x.get(2, 2, 0));
        }
    }

    private static void items(String call, BackHooks x, int s, int form, int... want) {
        for (int i = 0; i < want.length; i++) {
            Checks.due(call + ", item " + i, want[i], x.get(s, form, i));
        }
    }

    private static void copy() {
        BackHooks x = new BackHooks();
        Checks.fill(x, 0, 1, 1, 2, 3, 4, 5);
        Checks.fill(x, 1, 1, 9, 9, 9);
        Checks.due("35: copy(0, 2, 1, 1, 2)", 1, x.copy(0, 2, 1, 1, 2));
        items("35: copy", x, 1, 1, 9, 3, 4);
        items("35: what is copied stays", x, 0, 1, 1, 2, 3, 4, 5);
        x.put(0, 1, 2, 8);
        items("35: a copy goes its own way", x, 1, 1, 9, 3, 4);
        Checks.due("35: all of them", 1, x.copy(1, 0, 0, 2, 3));
        items("35: all of them", x, 0, 1, 1, 2, 9, 3, 4);
        Checks.due("35: none, from the end to the end", 1, x.copy(0, 5, 1, 3, 0));
    }

    private static void copyWithinOne() {
        BackHooks x = new BackHooks();
        Checks.fill(x, 2, 0, 1, 2, 3, 4, 5);
        Checks.due("35: up", 1, x.copy(2, 0, 2, 1, 4));
        items("35: up", x, 2, 0, 1, 1, 2, 3, 4);
        Checks.due("35: down", 1, x.copy(2, 2, 2, 0, 3));
        items("35: down", x, 2, 0, 2, 3, 4, 3, 4);
        found(x, 0);
    }

    private static void copyRefused() {
        BackHooks x = new BackHooks();
        for (int s : NO_SHEET) {
            Checks.due("35: copy from " + s, BAD, x.copy(s, 0, 0, 0, 0));
            Checks.due("35: copy to " + s, BAD, x.copy(0, 0, s, 0, 0));
        }
        found(x, 0);
        Checks.fill(x, 0, 0, 1, 2, 3);
        Checks.fill(x, 1, 1, 1, 2, 3);
        Checks.fill(x, 2, 0, 7, 8);
        Checks.due("35: to a lost one", NULL, x.copy(0, 0, 3, 0, -1));
        Checks.due("35: from a lost one", NULL, x.copy(3, 0, 0, 0, -1));
        found(x, 1);
        Checks.due("35: store ahead of index", Checks.STORE, x.copy(0, -1, 1, 0, 1));
        found(x, 4);
        int most = Integer.MAX_VALUE;
        int[][] rows = {{-1, 0, 1}, {0, -1, 1}, {0, 0, -1}, {0, 0, 3}, {2, 0, 2}, {1, 1, 2}, {4, 0, 0}, {0, 3, 0},
            {most, 0, 1}, {1, 0, most}, {0, most, most}, {most, most, most}, {LEAST, 0, 1}, {0, 0, LEAST}};
        for (int[] r : rows) {
            Checks.due("35: index", INDEX, x.copy(0, r[0], 2, r[1], r[2]));
            found(x, 2);
        }
        items("35: a refused copy", x, 2, 0, 7, 8);
    }

    private static void write() {
        BackHooks x = Checks.told("hgh", "m10", Checks.MAID, 2, 0);
        for (int s : NO_SHEET) {
            Checks.due("36: write(0, " + s + ")", BAD, x.write(0, s));
        }
        Checks.due("36: write(-1, 0)", BAD, x.write(-1, 0));
        Checks.due("36: write(12, 0)", BAD, x.write(12, 0));
        found(x, 0);
        Checks.due("36: to a lost one", NULL, x.write(11, 0));
        found(x, 1);
        for (int form = 0; form < 3; form++) {
            Checks.fill(x, 0, form, 5, 5, 5, 5);
            Checks.due("36: as many as there are hooks", 3, x.write(0, 0));
            items("36: evening 0", x, 0, form, 0, -1, 8, 5);
            Checks.due("36: evening 2", 3, x.write(2, 0));
            items("36: evening 2", x, 0, form, -1, -1, -1, 5);
            Checks.fill(x, 0, form, 5, 5);
            Checks.due("36: as many as there are items", 2, x.write(11, 0));
            items("36: evening 11", x, 0, form, 8, -1);
        }
        x.sheet(0, 0, 0);
        Checks.due("36: to no items", 0, x.write(0, 0));
        x.wipe(0);
        x.sheet(0, 0, 5);
        Checks.due("36: of no hooks", 0, x.write(0, 0));
    }

    private static void count() {
        BackHooks x = Checks.told("hsg", "m10;w20", Checks.LEFT, 0, 0);
        x.seen(0, 0, 0);
        x.seen(0, 0, 1);
        x.lose(3);
        int[] want = {3, 2, 3, 7, 1, 2, 34, 2, 1};
        for (int what = 0; what < want.length; what++) {
            Checks.due("37: count(" + what + ")", want[what], x.count(what));
        }
        Checks.due("37: count(-1)", BAD, x.count(-1));
        Checks.due("37: count(9)", BAD, x.count(9));
        x.type(0, '?');
        x.type(1, '?');
        Checks.due("37: hooks of a fault", 0, x.count(0));
        Checks.due("37: things of a fault", 0, x.count(1));
        Checks.due("37: bytes of a fault", 4, x.count(2));
        Checks.due("37: bytes of a fault", 8, x.count(3));
        Checks.due("37: bad ones leave the finding", 1, x.count(8));
    }

    private static void findingsChangeNothingElse() {
        BackHooks x = Checks.told("hs", "m31;q20", Checks.FRONT, 0, 0);
        Checks.fill(x, 0, 1, 4, 5, 6);
        x.seen(1, 0, 1);
        String before = Checks.stateOf(x);
        x.read(1);
        x.lose(1);
        x.write(0, 1);
        x.sheet(0, 1, -1);
        x.put(0, 0, 0, 1);
        x.put(0, 1, 3, 1);
        x.copy(0, 0, 0, 1, 3);
        x.copy(0, 0, 1, 0, 1);
        x.get(0, 0, 0);
        Checks.due("findings change nothing else", before, Checks.stateOf(x));
        items("findings change no sheet", x, 0, 1, 4, 5, 6);
        Checks.due("no other sheet", NULL, x.lose(1));
    }

    private static void digest() {
        digestIsTold(new BackHooks());
        digestIsTold(Checks.told("hhh", ""));
        digestIsTold(Checks.told("", "m10;q22"));
        BackHooks x = Checks.told("hsghsghsghsg", "m19;w93;q97;m52;w65;q44;w37;m80", Checks.LEFT, 0, 1,
                Checks.MAID, 1, 0, Checks.LEFT, 2, 2, Checks.FRONT, 3, 0, Checks.LEFT, 4, 5, Checks.LEFT, 4, 4,
                Checks.MAID, 5, 0, Checks.FRONT, 5, 0);
        digestIsTold(x);
        x.seen(0, 0, 1);
        x.seen(11, 1, x.settled(1) == BackHooks.NONE ? 0 : 1);
        digestIsTold(x);
        long before = x.digest();
        x.lose(0);
        Checks.due("38: a finding is not in it", before, x.digest());
        x.type(0, 'h');
        Checks.due("38: nor what is refused", before, x.digest());
        x.undo(0);
        digestIsTold(x);
        x.type(0, 'q');
        digestIsTold(x);
        x.undo(1);
        digestIsTold(x);
    }

    private static void digestIsTold(BackHooks x) {
        Checks.due("38: digest()", Fold.of(x), x.digest());
    }
}
