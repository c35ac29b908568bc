import java.util.ArrayList;
import java.util.Arrays;
import java.util.List;
import java.util.Set;
import java.util.TreeSet;
import java.util.function.Consumer;

/**
 * Each call in each of some scenes, with all its arguments at and beside their bounds: it answers
 * the first refusal that fits, in the order of the document, and nothing is changed then. For each
 * call the refusals are told as the document tells them; every pair of them that can fit at once
 * must have come up.
 */
public final class RefusalsTest {
    private static final int LOW = Integer.MIN_VALUE, TOP = Integer.MAX_VALUE;
    private static final int UNKNOWN = -1, OUTSIDE = -2, STATE = -3, FULL = -4, NO = -5, NONE = -6, FAULT = -7;
    private static final int AT_ONCE = 40;

    private static final int[] PANEL = {LOW, -1, 0, 1, 2, 3, 8, 9, TOP};
    private static final int[] WHAT = {LOW, LOW + 10, -1, 0, 1, 2, 3, 4, 5, 9, 10, 11, 12, 13, 14, 18, 19, TOP};
    private static final int[] VALUE = {LOW, -1, 0, 1, 3, 4, 6, 7, 9, 10, TOP};
    private static final int[] MANY = {LOW, -1, 0, 1, 2, 3, 4, 5, TOP - 1, TOP};
    private static final int[] HIGH = {LOW, -6, 5, 6, 20, 21, TOP};
    private static final int[] SIGN = {LOW, -48, 0, 32, 33, 48, 126, 127, 256 + 48, 65536 + 48, TOP};
    private static final int[] INDEX = {LOW, -1, 0, 1, 3, 4, TOP};
    private static final int[] IMAGE = {LOW, -1, 0, 1, 2, 31, 32, 33, TOP};

    /** An object made ready, and what is known of it. */
    private static final class Scene {
        final String name;
        final Consumer<Desk> made;
        final int panels;
        final int[] balloons;
        final String pad;
        final boolean goes;
        final int images;
        String before = "";

        Scene(String name, int[] balloons, String pad, boolean goes, int images) {
            this.name = name;
            this.panels = balloons.length;
            this.balloons = balloons;
            this.pad = pad;
            this.goes = goes;
            this.images = images;
            this.made = this::make;
        }

        private void make(Desk d) {
            for (int p = 0; p < panels; p++) {
                d.put(p + 1, 1, 0).balloons(p, "0123".substring(0, balloons[p]));
            }
            for (int k = 0; k <= 1; k++) {
                if ((images >> k & 1) == 1) {
                    d.keep(k);
                }
            }
            d.withHigh(20).pad(pad);
        }

        boolean has(int panel) {
            return panel >= 0 && panel < panels;
        }

        boolean padIsLayout() {
            return pad.length() == panels && pad.matches("[012]*");
        }
    }

    private static final int[] NO_PANELS = {}, BARE = {0}, THREE = {0, 2, 4}, NINE = {4, 0, 4, 4, 4, 4, 4, 4, 4};

    private static final Scene[] SCENES = {
        new Scene("new", NO_PANELS, "", true, 0),
        new Scene("no panels, a sign", NO_PANELS, "2", false, 1),
        new Scene("no panels, full pad", NO_PANELS, "222222222", false, 3),
        new Scene("one, goes", BARE, "2", true, 1),
        new Scene("one, does not go", BARE, "0", false, 2),
        new Scene("three, goes", THREE, "201", true, 2),
        new Scene("three, does not go", THREE, "120", false, 0),
        new Scene("three, another sign", THREE, "2a1", false, 1),
        new Scene("three, a 3", THREE, "203", false, 3),
        new Scene("three, too few", THREE, "20", false, 0),
        new Scene("three, empty pad", THREE, "", false, 1),
        new Scene("three, four columns", THREE, "0123", false, 2),
        new Scene("three, five figures", THREE, "01230", false, 2),
        new Scene("three, eight figures", THREE, "00010203", false, 1),
        new Scene("three, full pad", THREE, "201201201", false, 1),
        new Scene("nine, goes", NINE, "201201201", true, 3),
        new Scene("nine, does not go", NINE, "200020000", false, 0),
        new Scene("nine, another sign", NINE, "20002000~", false, 1),
        new Scene("nine, eight figures", NINE, "00010203", false, 2),
        new Scene("nine, empty pad", NINE, "", false, 3),
    };

    private interface Asked {
        int of(Desk d, int[] a);
    }

    private interface Fits {
        boolean in(Scene s, int[] a);
    }

    private static final class Refusal {
        final int answer;
        final Fits fits;

        Refusal(int answer, Fits fits) {
            this.answer = answer;
            this.fits = fits;
        }
    }

    private static Refusal when(int answer, Fits fits) {
        return new Refusal(answer, fits);
    }

    private static boolean is(int v, int least, int most) {
        return least <= v && v <= most;
    }

    private static boolean isFeature(int what, int v) {
        return what == 0 ? is(v, 1, 9) : what == 1 ? is(v, 1, 6) : what == 2 && is(v, 0, 3);
    }

    private static final Refusal NO_SUCH_PANEL = when(UNKNOWN, (s, a) -> !s.has(a[0]));
    private static final Refusal NO_LAYOUT = when(FAULT, (s, a) -> !s.padIsLayout());
    private static final Refusal DOES_NOT_GO = when(NO, (s, a) -> !s.goes);

    private final Check check = new Check("RefusalsTest");
    private final Set<String> pairs = new TreeSet<>();
    private final Set<String> met = new TreeSet<>();

    /** All choices of one argument from each row. */
    private static List<int[]> choices(int[][] rows) {
        List<int[]> all = new ArrayList<>();
        all.add(new int[0]);
        for (int[] row : rows) {
            List<int[]> longer = new ArrayList<>();
            for (int[] begun : all) {
                for (int v : row) {
                    int[] more = Arrays.copyOf(begun, begun.length + 1);
                    more[begun.length] = v;
                    longer.add(more);
                }
            }
            all = longer;
        }
        return all;
    }

    private static String told(int promise, String call, int[] a, Scene s) {
        return "promise " + promise + ": " + call + Arrays.toString(a) + ", " + s.name;
    }

    /** The first refusal that fits, or 0; notes which ones fit beside it. */
    private int firstThatFits(String call, Scene s, int[] a, Refusal... refusals) {
        int first = 0;
        for (Refusal r : refusals) {
            if (!r.fits.in(s, a)) {
                continue;
            }
            if (first == 0) {
                first = r.answer;
                met.add(call + " " + first);
            } else {
                pairs.add(call + " " + first + " before " + r.answer);
            }
        }
        return first;
    }

    /** A call that only asks changes nothing where it is not refused, either. */
    private void call(int promise, String call, boolean onlyAsks, int[][] rows, Asked asked, Refusal... refusals) {
        List<int[]> all = choices(rows);
        for (Scene s : SCENES) {
            Desk shared = null;
            int uses = 0;
            for (int[] a : all) {
                int want = firstThatFits(call, s, a, refusals);
                if (want == 0 && !onlyAsks) {
                    notRefused(told(promise, call, a, s), asked.of(made(s), a), call);
                    continue;
                }
                if (shared == null) {
                    shared = made(s);
                    uses = 0;
                }
                int got = asked.of(shared, a);
                if (want == 0) {
                    notRefused(told(promise, call, a, s), got, call);
                } else {
                    check.due(told(promise, call, a, s), got, want);
                }
                uses++;
                if (uses == AT_ONCE) {
                    unchanged(promise, call, s, shared);
                    shared = null;
                }
            }
            if (shared != null) {
                unchanged(promise, call, s, shared);
            }
        }
    }

    private static Desk made(Scene s) {
        Desk d = new Desk();
        s.made.accept(d);
        return d;
    }

    private void notRefused(String what, int got, String call) {
        boolean mayBeNone = call.equals("judge") || call.equals("best") || call.equals("speaker") || call.equals("good");
        check.holds(what + " answered " + got + ", but no refusal fits", got >= 0 || got == NONE && mayBeNone);
    }

    private void unchanged(int promise, String call, Scene s, Desk d) {
        String now = d.everything();
        check.holds("promise " + promise + ": " + call + " changed what it may not, " + s.name + "\n  is  " + now
            + "\n  due " + s.before, now.equals(s.before));
    }

    private void panels() {
        call(2, "panel", false, new int[][] {VALUE, VALUE, VALUE}, (d, a) -> d.panel(a[0], a[1], a[2]),
            when(OUTSIDE, (s, a) -> !is(a[0], 1, 9) || !is(a[1], 1, 6) || !is(a[2], 0, 3)),
            when(FULL, (s, a) -> s.panels == 9));
        call(3, "pop", false, new int[][] {}, (d, a) -> d.pop(), when(NO, (s, a) -> s.panels == 0));
        call(4, "change", false, new int[][] {PANEL, WHAT, VALUE}, (d, a) -> d.change(a[0], a[1], a[2]),
            NO_SUCH_PANEL, when(OUTSIDE, (s, a) -> !isFeature(a[1], a[2])));
        call(5, "high", false, new int[][] {HIGH}, (d, a) -> d.high(a[0]), when(OUTSIDE, (s, a) -> !is(a[0], 6, 20)));
        call(6, "of", true, new int[][] {PANEL, WHAT}, (d, a) -> d.of(a[0], a[1]),
            NO_SUCH_PANEL, when(OUTSIDE, (s, a) -> !is(a[1], 0, 3)));
        call(7, "tier", true, new int[][] {PANEL, MANY, WHAT}, (d, a) -> d.tier(a[0], a[1], a[2]),
            NO_SUCH_PANEL,
            when(OUTSIDE, (s, a) -> !is(a[1], 1, 4) || (long) a[0] + a[1] > s.panels
                || !is(a[2], 0, 1) && !is(a[2], 10, 9 + a[1])));
    }

    private void layouts() {
        call(8, "say", false, new int[][] {SIGN}, (d, a) -> d.say(a[0]),
            when(OUTSIDE, (s, a) -> !is(a[0], 33, 126)), when(FULL, (s, a) -> s.pad.length() == 9));
        call(9, "wipe", false, new int[][] {}, (d, a) -> d.wipe());
        call(10, "judge", true, new int[][] {WHAT}, (d, a) -> d.judge(a[0]),
            when(OUTSIDE, (s, a) -> !is(a[0], 0, 1)), NO_LAYOUT);
        call(11, "told", true, new int[][] {WHAT}, (d, a) -> d.told(a[0]),
            when(OUTSIDE, (s, a) -> !is(a[0], 0, 3)), NO_LAYOUT, DOES_NOT_GO);
        call(12, "at", true, new int[][] {PANEL, WHAT}, (d, a) -> d.at(a[0], a[1]),
            NO_SUCH_PANEL, when(OUTSIDE, (s, a) -> !is(a[1], 0, 3)), NO_LAYOUT, DOES_NOT_GO);
        call(13, "best", true, new int[][] {WHAT}, (d, a) -> d.best(a[0]),
            when(OUTSIDE, (s, a) -> !is(a[0], 0, 3) && !is(a[0], 10, 18)));
        call(14, "lay", false, new int[][] {}, (d, a) -> d.lay());
    }

    private void balloons() {
        call(15, "talk", false, new int[][] {PANEL}, (d, a) -> d.talk(a[0]),
            NO_SUCH_PANEL, when(FAULT, (s, a) -> !s.pad.matches("[0123]{0,4}")));
        call(16, "speaker", true, new int[][] {PANEL, INDEX}, (d, a) -> d.speaker(a[0], a[1]), NO_SUCH_PANEL);
        call(17, "good", true, new int[][] {PANEL, WHAT}, (d, a) -> d.good(a[0], a[1]),
            NO_SUCH_PANEL, when(OUTSIDE, (s, a) -> !is(a[1], 0, 2) && !is(a[1], 10, 13)));
        call(18, "isGood", true, new int[][] {PANEL}, (d, a) -> d.isGood(a[0]),
            NO_SUCH_PANEL,
            when(FAULT, (s, a) -> !s.pad.matches("([012][0123])*") || s.has(a[0]) && s.pad.length() != 2 * s.balloons[a[0]]));
    }

    private void images() {
        call(19, "image", false, new int[][] {IMAGE}, (d, a) -> d.image(a[0]), when(OUTSIDE, (s, a) -> !is(a[0], 0, 1)));
        call(20, "restore", false, new int[][] {IMAGE}, (d, a) -> d.restore(a[0]),
            when(OUTSIDE, (s, a) -> !is(a[0], 0, 1)),
            when(STATE, (s, a) -> !is(a[0], 0, 1) || (s.images >> a[0] & 1) == 0));
        call(21, "count", true, new int[][] {WHAT}, (d, a) -> d.count(a[0]), when(OUTSIDE, (s, a) -> !is(a[0], 0, 4)));
    }

    /** So that no scene can be taken out and a refusal or an order be left without a test. */
    private void allCameUp() {
        String[] due = {
            "panel -2", "panel -4", "pop -5", "change -1", "change -2", "high -2", "of -1", "of -2", "tier -1", "tier -2",
            "say -2", "say -4", "judge -2", "judge -7", "told -2", "told -7", "told -5",
            "at -1", "at -2", "at -7", "at -5", "best -2",
            "talk -1", "talk -7", "speaker -1", "good -1", "good -2", "isGood -1", "isGood -7",
            "image -2", "restore -2", "restore -3", "count -2",
        };
        String[] both = {
            "panel -2 before -4", "change -1 before -2", "of -1 before -2", "tier -1 before -2", "say -2 before -4",
            "judge -2 before -7", "told -2 before -7", "told -2 before -5", "told -7 before -5",
            "at -1 before -2", "at -1 before -7", "at -1 before -5", "at -2 before -7", "at -2 before -5", "at -7 before -5",
            "talk -1 before -7", "good -1 before -2", "isGood -1 before -7", "restore -2 before -3",
        };
        check.holds("refusals that came up: " + met, met.equals(new TreeSet<>(Arrays.asList(due))));
        check.holds("pairs that came up: " + pairs, pairs.equals(new TreeSet<>(Arrays.asList(both))));
    }

    public static void main(String[] args) {
        RefusalsTest t = new RefusalsTest();
        for (Scene s : SCENES) {
            s.before = made(s).everything();
        }
        t.panels();
        t.layouts();
        t.balloons();
        t.images();
        t.allCameUp();
        t.check.end();
    }
}
