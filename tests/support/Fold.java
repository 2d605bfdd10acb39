/** The digest, folded from the other calls' answers. */
final class Fold {
    private long h = 17;

    private Fold() {
    }

    static long of(BackHooks x) {
        Fold fold = new Fold();
        fold.addAll(x);
        return fold.h;
    }

    static long of(long... answers) {
        Fold fold = new Fold();
        fold.add(answers);
        return fold.h;
    }

    private void add(long... answers) {
        for (long a : answers) {
            h = 31 * h + a;
        }
    }

    private void addAll(BackHooks x) {
        for (int what = 0; what < 8; what++) {
            add(x.count(what));
        }
        add(x.fault(0), x.fault(1));
        int hooks = x.count(0);
        for (int k = 0; k < hooks; k++) {
            add(x.hook(k), x.said(0, k), x.said(3, k), x.said(11, k));
        }
        for (int e = 0; e < 12; e++) {
            add(x.at(e, 0), x.at(e, 1), x.at(e, 2), x.at(e, 3), x.leave(e, 0), x.leave(e, 1), x.leave(e, 2));
        }
        int things = x.count(1);
        for (int t = 0; t < things; t++) {
            add(x.thing(t, 0), x.thing(t, 1), x.thing(t, 2));
            add(x.heat(0, t, 0), x.heat(0, t, 1), x.heat(4, t, 0), x.heat(4, t, 1));
            add(x.heat(11, t, 0), x.heat(11, t, 1), x.settled(t), x.highest(t));
            add(x.was(t, 0), x.was(t, 1), x.ask(t), x.chance(5, t, 0), x.chance(5, t, 1));
        }
        add(x.sum(0), x.sum(1), x.sum(2), x.sum(3), x.peace(), x.longest(), x.sore());
        add(x.swap(0), x.swap(1), x.swap(2), x.swap(3), x.fit(), x.spare(BackHooks.NONE), x.spare(0));
        add(x.never(), x.seasons(7, 6, 0), x.seasons(7, 6, 1));
    }
}
