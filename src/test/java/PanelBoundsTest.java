import java.io.IOException;

/** Boundary cases of promises 1 to 7. */
public final class PanelBoundsTest extends Sentences {
    private static final int[] LEAST = {1, 1, 0};
    private static final int[] MOST = {9, 6, 3};

    /** Three panels with balloons, both images, a layout on the pad. */
    private static void some(Desk d) {
        d.put(2, 3, ALONE).put(4, 5, PLAIN).balloons(0, "30").keep(0);
        d.put(9, 6, REVEAL).balloons(2, "0123").withHigh(12).keep(1).pad("221");
    }

    private static void full(Desk d) {
        for (int i = 0; i < 9; i++) {
            d.put(i + 1, i % 6 + 1, i % 4);
        }
        d.balloons(8, "3210").keep(0).pad("201201201");
    }

    private void unknown(int panel) {
        due("of(" + panel + ", 0)", x.of(panel, 0), UNKNOWN);
        due("change(" + panel + ", 0, 1)", x.change(panel, 0, 1), UNKNOWN);
        due("tier(" + panel + ", 1, 0)", x.tier(panel, 1, 0), UNKNOWN);
        due("at(" + panel + ", 0)", x.at(panel, 0), UNKNOWN);
        due("talk(" + panel + ")", x.talk(panel), UNKNOWN);
        due("speaker(" + panel + ", 0)", x.speaker(panel, 0), UNKNOWN);
        due("good(" + panel + ", 0)", x.good(panel, 0), UNKNOWN);
        due("isGood(" + panel + ")", x.isGood(panel), UNKNOWN);
    }

    private void features(int panel, int weight, int tall, int kind, int balloons) {
        due("of(" + panel + ", 0)", x.of(panel, 0), weight);
        due("of(" + panel + ", 1)", x.of(panel, 1), tall);
        due("of(" + panel + ", 2)", x.of(panel, 2), kind);
        due("of(" + panel + ", 3)", x.of(panel, 3), balloons);
    }

    // ---- promise 1

    @Says("No PANELS")
    void promise1NoPanels() {
        due("count(0)", x.count(0), 0);
        due("count(3)", x.count(3), 0);
        due("pop()", x.pop(), NO);
        for (int panel : new int[] {LOW, -1, 0, 1, 8, 9, TOP}) {
            unknown(panel);
        }
    }

    @Says("THE PAD is empty")
    void promise1PadIsEmpty() {
        due("count(2)", x.count(2), 0);
        due("wipe()", x.wipe(), 0);
        due("judge(0), no figures for no panels", x.judge(0), NONE);
        due("say(33)", x.say(33), 1);
    }

    @Says("no IMAGE is kept")
    void promise1NoImageIsKept() {
        due("count(4)", x.count(4), 0);
        due("restore(0)", x.restore(0), STATE);
        due("restore(1)", x.restore(1), STATE);
    }

    @Says("HIGH is 6 to 20 (10 at first)")
    void promise1HighIsTenAtFirst() {
        due("count(1)", x.count(1), 10);
        due("high(6)", x.high(6), 10);
    }

    @Says({"No PANELS", "THE PAD is empty", "no IMAGE is kept"})
    void promise1NothingIsTakenOverFromAnotherObject() {
        String before = x.everything();
        full(new Desk());
        Desk other = new Desk();
        some(other);
        same("a new object", new Desk().everything(), before);
    }

    @Says("An object is used for at most 512 calls after it has been made")
    void promise1TheLastOf512Calls() {
        for (int i = 0; i < 9; i++) {
            x.panel(1, 1, PLAIN);
        }
        for (int calls = 9; calls < 511; calls++) {
            due("best(2)", x.best(2), 6264);
        }
        due("lay(), the 512th call", x.lay(), 9);
    }

    // ---- promise 2

    @Says({"PANELS, up to 9, are numbered from 0 on as they are told", "A PANEL more, behind all others: its number"})
    void promise2NumbersAreZeroToEight() {
        for (int i = 0; i < 9; i++) {
            due("panel, number " + i, x.panel(i + 1, 6 - i % 6, i % 4), i);
            due("count(0)", x.count(0), i + 1);
        }
        for (int i = 0; i < 9; i++) {
            features(i, i + 1, 6 - i % 6, i % 4, 0);
        }
    }

    @Says("FULL: there are 9.")
    void promise2FullWithNine() {
        refusedOnce(FULL, "panel(1, 1, 0), a tenth", PanelBoundsTest::full, (d, v) -> d.panel(1, 1, 0));
        full(x);
        due("pop()", x.pop(), 8);
        due("panel(9, 6, 3), eight being there", x.panel(9, 6, 3), 8);
        due("panel(9, 6, 3), nine being there", x.panel(9, 6, 3), FULL);
        due("restore(0), nine being kept", x.restore(0), 1);
        due("panel(9, 6, 3), nine being there again", x.panel(9, 6, 3), FULL);
    }

    @Says("each with a WEIGHT, 1 to 9")
    void promise2WeightIsOneToNine() {
        refused(OUTSIDE, "panel, weight", PanelBoundsTest::some, beside(1, 9), (d, v) -> d.panel(v, 1, 0));
        for (int v : from(1, 9)) {
            due("panel(" + v + ", 1, 0)", x.panel(v, 1, 0), v - 1);
            due("of", x.of(v - 1, 0), v);
        }
    }

    @Says("a TALL, 1 to 6")
    void promise2TallIsOneToSix() {
        refused(OUTSIDE, "panel, tall", PanelBoundsTest::some, beside(1, 6), (d, v) -> d.panel(1, v, 0));
        for (int v : from(1, 6)) {
            due("panel(1, " + v + ", 0)", x.panel(1, v, 0), v - 1);
            due("of", x.of(v - 1, 1), v);
        }
    }

    @Says("a KIND: 0 plain, 1 ALONE, 2 a SPREAD, 3 a REVEAL")
    void promise2KindIsZeroToThree() {
        refused(OUTSIDE, "panel, kind", PanelBoundsTest::some, beside(0, 3), (d, v) -> d.panel(1, 1, v));
        for (int v : from(0, 3)) {
            due("panel(1, 1, " + v + ")", x.panel(1, 1, v), v);
            due("of", x.of(v, 2), v);
        }
    }

    @Says("OUTSIDE: all three")
    void promise2OneWrongNumberIsEnough() {
        int[][] wrong = {{0, 0, 0}, {10, 7, 3}, {0, 6, 4}, {9, 7, -1}, {10, 7, 4}, {0, 0, -1}, {LOW, TOP, LOW}};
        for (int[] w : wrong) {
            due("panel, several wrong", x.panel(w[0], w[1], w[2]), OUTSIDE);
        }
        // What is right for another of the three is not right here.
        due("panel(1, 9, 0)", x.panel(1, 9, 0), OUTSIDE);
        due("panel(1, 1, 6)", x.panel(1, 1, 6), OUTSIDE);
        due("panel(0, 1, 1)", x.panel(0, 1, 1), OUTSIDE);
        due("count(0)", x.count(0), 0);
    }

    @Says({"OUTSIDE: all three; FULL: there are 9.", "answer the first that fits"})
    void promise2OutsideGoesBeforeFull() {
        refused(OUTSIDE, "panel, weight, full", PanelBoundsTest::full, new int[] {0, 10}, (d, v) -> d.panel(v, 1, 0));
        refused(OUTSIDE, "panel, tall, full", PanelBoundsTest::full, new int[] {0, 7}, (d, v) -> d.panel(1, v, 0));
        refused(OUTSIDE, "panel, kind, full", PanelBoundsTest::full, new int[] {-1, 4}, (d, v) -> d.panel(1, 1, v));
    }

    @Says("A PANEL has up to 4 BALLOONS (none at first)")
    void promise2NoBalloonsAtFirst() {
        full(x);
        due("pop()", x.pop(), 8);
        due("panel, where one with balloons was", x.panel(1, 1, 0), 8);
        due("of(8, 3)", x.of(8, 3), 0);
        due("speaker(8, 0)", x.speaker(8, 0), NONE);
        due("count(3)", x.count(3), 0);
    }

    // ---- promise 3

    @Says("NO: there is none.")
    void promise3NoneIsThere() {
        refusedOnce(NO, "pop(), new", d -> { }, (d, v) -> d.pop());
        refusedOnce(NO, "pop(), all gone", d -> {
            some(d);
            d.pop();
            d.pop();
            d.pop();
        }, (d, v) -> d.pop());
        x.keep(1).talls(1);
        due("restore(1), none being kept", x.restore(1), 1);
        due("pop()", x.pop(), NO);
    }

    @Says("how many are left")
    void promise3EightToZeroAreLeft() {
        full(x);
        for (int left = 8; left >= 0; left--) {
            due("pop()", x.pop(), left);
            due("count(0)", x.count(0), left);
            unknown(left);
        }
        due("pop()", x.pop(), NO);
        due("panel, the first again", x.panel(1, 1, 0), 0);
    }

    @Says("The last PANEL goes, with its BALLOONS")
    void promise3OnlyTheLastGoes() {
        some(x);
        due("count(3)", x.count(3), 6);
        due("pop()", x.pop(), 2);
        due("count(3)", x.count(3), 2);
        features(0, 2, 3, ALONE, 2);
        features(1, 4, 5, PLAIN, 0);
        due("speaker(0, 0)", x.speaker(0, 0), 3);
        due("count(1)", x.count(1), 12);
        due("count(2)", x.count(2), 3);
        due("count(4)", x.count(4), 3);
        due("restore(1), the image has it yet", x.restore(1), 1);
        features(2, 9, 6, REVEAL, 4);
    }

    // ---- promise 4

    @Says({"WEIGHT (what = 0), TALL (1), KIND (2) of a PANEL is v: which it was", "OUTSIDE: both"})
    void promise4EachFeatureHasItsBounds() {
        for (int what = 0; what <= 2; what++) {
            int feature = what;
            refused(OUTSIDE, "change(1, " + what + ", v)", PanelBoundsTest::some, beside(LEAST[what], MOST[what]),
                (d, v) -> d.change(1, feature, v));
            x = new Desk();
            some(x);
            int was = x.of(1, what);
            for (int v : from(LEAST[what], MOST[what])) {
                due("change(1, " + what + ", " + v + ")", x.change(1, what, v), was);
                due("of", x.of(1, what), v);
                was = v;
            }
            due("change, to what it is", x.change(1, what, was), was);
        }
    }

    @Says("OUTSIDE: both")
    void promise4WhatIsZeroToTwo() {
        for (int value : new int[] {0, 1, 3}) {
            refused(OUTSIDE, "change(1, what, " + value + ")", PanelBoundsTest::some, beside(0, 2),
                (d, v) -> d.change(1, v, value));
        }
        refused(OUTSIDE, "change, both wrong", PanelBoundsTest::some, new int[] {LOW, -1, 3, TOP}, (d, v) -> d.change(1, v, v));
    }

    @Says("UNKNOWN; OUTSIDE: both")
    void promise4PanelsAreThoseThatThereAre() {
        refused(UNKNOWN, "change(panel, 0, 1)", PanelBoundsTest::some, beside(0, 2), (d, v) -> d.change(v, 0, 1));
        some(x);
        due("change(0, 0, 1)", x.change(0, 0, 1), 2);
        due("change(2, 0, 1)", x.change(2, 0, 1), 9);
        x.pop();
        due("change(2, 0, 1), gone", x.change(2, 0, 1), UNKNOWN);
        due("change(1, 0, 1), the last", x.change(1, 0, 1), 4);
    }

    @Says("UNKNOWN; OUTSIDE: both")
    void promise4UnknownGoesBeforeOutside() {
        refused(UNKNOWN, "change, all wrong", PanelBoundsTest::some, beside(0, 2), (d, v) -> d.change(v, v, v));
        refused(UNKNOWN, "change(3, what, 1)", PanelBoundsTest::some, beside(0, 2), (d, v) -> d.change(3, v, 1));
        refused(UNKNOWN, "change(-1, 0, v)", PanelBoundsTest::some, beside(1, 9), (d, v) -> d.change(-1, 0, v));
    }

    @Says("of a PANEL is v")
    void promise4OnlyThatOneChanges() {
        some(x);
        x.change(1, 0, 9);
        features(0, 2, 3, ALONE, 2);
        features(1, 9, 5, PLAIN, 0);
        x.change(0, 1, 6);
        features(0, 2, 6, ALONE, 2);
        x.change(2, 2, SPREAD);
        features(2, 9, 6, SPREAD, 4);
        features(1, 9, 5, PLAIN, 0);
        due("restore(1), the image is as it was", x.restore(1), 1);
        features(1, 4, 5, PLAIN, 0);
    }

    // ---- promise 5

    @Says({"HIGH is 6 to 20", "OUTSIDE."})
    void promise5HighIsSixToTwenty() {
        refused(OUTSIDE, "high(v), new", d -> { }, beside(6, 20), (d, v) -> d.high(v));
        refused(OUTSIDE, "high(v)", PanelBoundsTest::some, beside(6, 20), (d, v) -> d.high(v));
        int was = 10;
        for (int v : from(6, 20)) {
            due("high(" + v + ")", x.high(v), was);
            due("count(1)", x.count(1), v);
            was = v;
        }
        due("high(20), which it is", x.high(20), 20);
        due("high(6)", x.high(6), 20);
    }

    @Says("HIGH is v: which it was")
    void promise5HighMayBecomeLessThanAPageHas() {
        x.talls(6, 6).withHigh(12).pad("21");
        due("judge(0)", x.judge(0), NONE);
        due("high(6)", x.high(6), 12);
        due("count(0)", x.count(0), 2);
        due("judge(1)", x.judge(1), 5);
    }

    // ---- promise 6

    @Says("WEIGHT (what = 0), TALL (1), KIND (2), how many BALLOONS (3)")
    void promise6WhatIsZeroToThree() {
        refused(OUTSIDE, "of(1, what)", PanelBoundsTest::some, beside(0, 3), (d, v) -> d.of(1, v));
        some(x);
        features(0, 2, 3, ALONE, 2);
        features(1, 4, 5, PLAIN, 0);
        features(2, 9, 6, REVEAL, 4);
    }

    @Says("UNKNOWN; OUTSIDE.")
    void promise6UnknownGoesBeforeOutside() {
        refused(UNKNOWN, "of(panel, 0)", PanelBoundsTest::some, beside(0, 2), (d, v) -> d.of(v, 0));
        refused(UNKNOWN, "of(panel, 4)", PanelBoundsTest::some, beside(0, 2), (d, v) -> d.of(v, 4));
        refused(UNKNOWN, "of(3, what)", PanelBoundsTest::some, beside(0, 3), (d, v) -> d.of(3, v));
        refused(UNKNOWN, "of(9, 0), full", PanelBoundsTest::full, beside(0, 8), (d, v) -> d.of(v, 0));
    }

    @Says("how many BALLOONS (3)")
    void promise6BalloonsAreZeroToFour() {
        x.talls(1);
        String speakers = "0303";
        for (int n = 0; n <= 4; n++) {
            x.balloons(0, speakers.substring(0, n));
            due("of(0, 3)", x.of(0, 3), n);
        }
        x.balloons(0, "");
        due("of(0, 3), none again", x.of(0, 3), 0);
    }

    // ---- promise 7

    @Says({"A TIER: 1 to 4 PANELS one behind the other", "OUTSIDE: n is not 1 to 4"})
    void promise7NIsOneToFour() {
        refused(OUTSIDE, "tier(0, n, 0)", PanelBoundsTest::full, beside(1, 4), (d, v) -> d.tier(0, v, 0));
        refused(OUTSIDE, "tier(8, n, 10)", PanelBoundsTest::full, beside(1, 4), (d, v) -> d.tier(8, v, 10));
        x.talls(1, 3, 5, 6, 2);
        int[] heights = {1, 3, 5, 6};
        for (int n = 1; n <= 4; n++) {
            due("tier(0, " + n + ", 0)", x.tier(0, n, 0), heights[n - 1]);
        }
    }

    @Says("there are not so many")
    void promise7ThereAreSoMany() {
        for (int panels = 1; panels <= 9; panels++) {
            x = new Desk().alike(panels, 1, 0);
            for (int p = 0; p < panels; p++) {
                for (int n = 1; n <= 4; n++) {
                    boolean are = p + n <= panels;
                    due("tier(" + p + ", " + n + ", 0) of " + panels, x.tier(p, n, 0), are ? 1 : OUTSIDE);
                    due("tier(" + p + ", " + n + ", 10) of " + panels, x.tier(p, n, 10), are ? 12 / n : OUTSIDE);
                }
            }
        }
        // The images have more; what counts is what there is now.
        Desk fewer = new Desk().talls(1, 1, 1, 1).keep(0);
        fewer.pop();
        due("tier(0, 4, 0), one being gone", fewer.tier(0, 4, 0), OUTSIDE);
        due("tier(0, 3, 0), one being gone", fewer.tier(0, 3, 0), 1);
        refused(OUTSIDE, "tier(2, n, 0) of three", PanelBoundsTest::some, beside(1, 1), (d, v) -> d.tier(2, v, 0));
    }

    @Says({"HEIGHT (what = 0), GAPS (1), the WIDTH of its i-th PANEL, i from 0 on (10 and i, added)", "there are not so many, what."})
    void promise7WhatEndsWithTheTier() {
        for (int n = 1; n <= 4; n++) {
            int many = n;
            refused(OUTSIDE, "tier(0, " + n + ", what), above", PanelBoundsTest::full, beside(0, 9 + n), (d, v) -> d.tier(0, many, v));
            refused(OUTSIDE, "tier(0, " + n + ", what), between", PanelBoundsTest::full, from(2, 9), (d, v) -> d.tier(0, many, v));
            x = new Desk().talls(2, 2, 2, 2);
            due("tier(0, n, 0)", x.tier(0, n, 0), 2);
            due("tier(0, n, 1)", x.tier(0, n, 1), 0);
            for (int i = 0; i < n; i++) {
                due("tier(0, " + n + ", " + (10 + i) + ")", x.tier(0, n, 10 + i), 12 / n);
            }
        }
    }

    @Says("UNKNOWN: the PANEL; OUTSIDE: n is not 1 to 4, there are not so many, what.")
    void promise7UnknownGoesBeforeOutside() {
        refused(UNKNOWN, "tier(panel, 1, 0)", PanelBoundsTest::some, beside(0, 2), (d, v) -> d.tier(v, 1, 0));
        refused(UNKNOWN, "tier(panel, 0, 9)", PanelBoundsTest::some, beside(0, 2), (d, v) -> d.tier(v, 0, 9));
        refused(UNKNOWN, "tier(3, n, 0)", PanelBoundsTest::some, beside(1, 4), (d, v) -> d.tier(3, v, 0));
        refused(UNKNOWN, "tier(-1, 1, what)", PanelBoundsTest::some, beside(0, 10), (d, v) -> d.tier(-1, 1, v));
        refused(UNKNOWN, "tier(-1, 2, 0), reaching into what there is", PanelBoundsTest::some, from(1, 4), (d, v) -> d.tier(-1, v, 0));
    }

    @Says("be they what they are")
    void promise7KindsAndHighAreNoMatter() {
        for (int kind = 0; kind <= 3; kind++) {
            x = new Desk().put(1, 6, kind).put(1, 1, kind).put(1, 5, kind).put(1, 1, kind).withHigh(6);
            due("tier(0, 4, 0), kind " + kind, x.tier(0, 4, 0), 6);
            due("tier(0, 4, 1), kind " + kind, x.tier(0, 4, 1), 0 + 5 + 1 + 5);
            due("tier(0, 4, 13), kind " + kind, x.tier(0, 4, 13), 3);
            due("tier(0, 1, 10), kind " + kind, x.tier(0, 1, 10), 12);
        }
    }

    @Says({"HEIGHT of a TIER: the greatest TALL of its PANELS", "for each of its PANELS HEIGHT less its TALL, added"})
    void promise7GreatestTallMayStandAnywhere() {
        int[][] tiers = {{6, 1, 1, 1}, {1, 6, 1, 1}, {1, 1, 6, 1}, {1, 1, 1, 6}};
        for (int[] talls : tiers) {
            x = new Desk().talls(talls);
            due("tier(0, 4, 0)", x.tier(0, 4, 0), 6);
            due("tier(0, 4, 1), the greatest gaps", x.tier(0, 4, 1), 15);
        }
        x = new Desk().talls(6, 6, 6, 6, 1);
        due("tier(0, 4, 1), no gaps", x.tier(0, 4, 1), 0);
        due("tier(4, 1, 0), a taller one ahead of it", x.tier(4, 1, 0), 1);
        due("tier(4, 1, 1), one panel", x.tier(4, 1, 1), 0);
        x = new Desk().talls(1, 1, 6);
        due("tier(0, 2, 0), a taller one behind it", x.tier(0, 2, 0), 1);
        due("tier(0, 2, 1)", x.tier(0, 2, 1), 0);
    }

    private void widths(int... weightsAndWidths) {
        int n = weightsAndWidths.length / 2;
        x = new Desk();
        for (int i = 0; i < n; i++) {
            x.put(weightsAndWidths[i], 1, 0);
        }
        for (int i = 0; i < n; i++) {
            due("width " + i, x.tier(0, n, 10 + i), weightsAndWidths[n + i]);
        }
    }

    @Says("what then is left of 12 goes, one each, to those for which most was cut off, of such the first ones")
    void promise7WidthsByHand() {
        widths(1, 12);
        widths(9, 12);
        // Nothing is cut off, so nothing is left.
        widths(9, 1, 1, 1, 9, 1, 1, 1);
        // 12 and three times 108 by 28: 0, 3, 3, 3, and 12, 24, 24, 24 cut off: a width may be 0.
        widths(1, 9, 9, 9, 0, 4, 4, 4);
        widths(9, 9, 9, 1, 4, 4, 4, 0);
        // 12 times 3, 3, 7 by 13: the two left go to the first two; with the 7 ahead, to the last two.
        widths(3, 3, 7, 3, 3, 6);
        widths(7, 3, 3, 6, 3, 3);
        // 60, 60, 24, 12 by 13: 4, 4, 1, 0, and 8, 8, 11, 12 cut off: three left, one each.
        widths(5, 5, 2, 1, 5, 4, 2, 1);
        widths(1, 2, 5, 5, 1, 2, 5, 4);
        // 12 and 84 by 8: as much is cut off both, so the first has what is left.
        widths(1, 7, 2, 10);
        widths(7, 1, 11, 1);
    }

    @Says({"each of its PANELS has 12 times its WEIGHT by all WEIGHTS of the TIER, cut", "of such the first ones"})
    void promise7WidthsOfAllTiers() {
        for (int n = 1; n <= 4; n++) {
            int tiers = (int) Math.round(Math.pow(9, n));
            for (int t = 0; t < tiers; t++) {
                int[] weights = new int[n];
                for (int i = 0, rest = t; i < n; i++, rest /= 9) {
                    weights[i] = rest % 9 + 1;
                }
                widthsAreFair(weights);
            }
        }
    }

    /** Who has one more than the cut share: none with less cut off, or as much and further behind, goes first. */
    private void widthsAreFair(int[] weights) {
        Desk d = new Desk();
        int all = 0;
        for (int w : weights) {
            d.put(w, 1, 0);
            all += w;
        }
        int sum = 0;
        boolean[] more = new boolean[weights.length];
        boolean fair = true;
        for (int i = 0; i < weights.length; i++) {
            int width = d.tier(0, weights.length, 10 + i);
            int share = 12 * weights[i] / all;
            sum += width;
            more[i] = width == share + 1;
            fair &= width == share || more[i];
        }
        for (int i = 0; i < weights.length; i++) {
            for (int j = 0; j < weights.length; j++) {
                int cutI = 12 * weights[i] % all;
                int cutJ = 12 * weights[j] % all;
                fair &= !(more[j] && !more[i] && (cutI > cutJ || cutI == cutJ && i < j));
            }
        }
        holds("widths of a tier " + java.util.Arrays.toString(weights), fair && sum == 12);
    }

    public static void main(String[] args) throws IOException {
        new PanelBoundsTest().runAll(args, 1, 7);
    }
}
