import java.util.List;

/**
 * All that can be seen of an object that had some calls, but for count(8). To look changes an object, and an object
 * has 512 calls, so each part is looked at on a new one.
 */
final class Probe {
    private final StringBuilder all = new StringBuilder();

    private Probe() {
    }

    static String of(List<Call> calls) {
        Probe p = new Probe();
        p.all.append(Call.again(calls).digest());
        p.texts(Call.again(calls));
        p.events(Call.again(calls));
        p.sights(Call.again(calls));
        for (int s = 0; s < 4; s++) {
            p.sheet(Call.again(calls), s);
        }
        return p.all.toString();
    }

    private void see(long answer) {
        all.append(' ').append(answer);
    }

    private void texts(BackHooks x) {
        all.append("; texts");
        for (int text = 0; text < 2; text++) {
            do {
                see(x.fault(text));
                see(x.count(text));
                see(text == 0 ? x.hook(x.count(0) - 1) : lastThing(x));
            } while (x.undo(text) >= 0);
        }
    }

    private static int lastThing(BackHooks x) {
        int t = x.count(1) - 1;
        return 100 * x.thing(t, 0) + 10 * x.thing(t, 1) + x.thing(t, 2);
    }

    private void events(BackHooks x) {
        all.append("; events");
        do {
            see(x.digest());
            see(x.sum(1));
        } while (x.back() >= 0);
    }

    private void sights(BackHooks x) {
        all.append("; seen");
        see(x.never());
        for (int t = 0; t < 8; t++) {
            see(x.was(t, 0));
            see(x.was(t, 1));
        }
        see(x.forget());
    }

    private void sheet(BackHooks x, int s) {
        all.append("; sheet");
        for (int form = 0; form < 3; form++) {
            see(x.get(s, form, 0));
            see(x.put(s, form, -1, 0));
            // put's answer tells whether it is of this form: an index is looked at behind a form
            for (int i = 0; i < 60 && x.put(s, form, -1, 0) == Checks.INDEX; i++) {
                see(x.get(s, form, i));
            }
        }
        see(x.lose(s));
    }
}
