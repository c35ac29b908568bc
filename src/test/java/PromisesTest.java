/** Promise by promise: ordinary inputs, the edges that the document names, and wrong inputs. */
public final class PromisesTest {
    private static final int LOW = Integer.MIN_VALUE;
    private static final int TOP = Integer.MAX_VALUE;
    private static final int PLAIN = 0, ALONE = 1, SPREAD = 2, REVEAL = 3;

    private final Check check = new Check("PromisesTest");
    private int promise = 0;
    private PanelPages x = null;

    private void begin(int number) {
        promise = number;
        x = new PanelPages();
    }

    private void due(String call, int got, int want) {
        check.due("promise " + promise + ": " + call, got, want);
    }

    /** A new object with a panel for each kind, weight 1 and the tall told beside it. */
    private void panels(int... kindsAndTalls) {
        x = new PanelPages();
        for (int i = 0; i < kindsAndTalls.length; i += 2) {
            x.panel(1, kindsAndTalls[i + 1], kindsAndTalls[i]);
        }
    }

    private void write(String signs) {
        x.wipe();
        for (int i = 0; i < signs.length(); i++) {
            due("say(" + signs.charAt(i) + ")", x.say(signs.charAt(i)), i + 1);
        }
    }

    private void talks(int panel, String speakers) {
        write(speakers);
        due("talk(" + panel + ") of " + speakers, x.talk(panel), speakers.length());
    }

    private void judged(String layout, int place, int why) {
        write(layout);
        due("judge(0) of " + layout, x.judge(0), place);
        due("judge(1) of " + layout, x.judge(1), why);
    }

    private void tolds(String layout, int pages, int ragged, int tiers, int blanks) {
        judged(layout, PanelPages.NONE, PanelPages.NONE);
        due("told(0) of " + layout, x.told(0), pages);
        due("told(1) of " + layout, x.told(1), ragged);
        due("told(2) of " + layout, x.told(2), tiers);
        due("told(3) of " + layout, x.told(3), blanks);
    }

    private void ats(int panel, int page, int tier, int place, int width) {
        due("at(" + panel + ", 0)", x.at(panel, 0), page);
        due("at(" + panel + ", 1)", x.at(panel, 1), tier);
        due("at(" + panel + ", 2)", x.at(panel, 2), place);
        due("at(" + panel + ", 3)", x.at(panel, 3), width);
    }

    private void bests(int pages, int ragged, int goes, int few, String layout) {
        due("best(0)", x.best(0), pages);
        due("best(1)", x.best(1), ragged);
        due("best(2)", x.best(2), goes);
        due("best(3)", x.best(3), few);
        for (int i = 0; i < 9; i++) {
            int figure = i < layout.length() ? layout.charAt(i) - '0' : PanelPages.NONE;
            due("best(" + (10 + i) + ")", x.best(10 + i), figure);
        }
    }

    private void counts(int panels, int high, int signs, int balloons, int images) {
        due("count(0)", x.count(0), panels);
        due("count(1)", x.count(1), high);
        due("count(2)", x.count(2), signs);
        due("count(3)", x.count(3), balloons);
        due("count(4)", x.count(4), images);
    }

    private void isGood(int panel, String setting, int want) {
        write(setting);
        due("isGood(" + panel + ") of " + setting, x.isGood(panel), want);
        due("count(2) behind isGood", x.count(2), setting.length());
    }

    private void constants() {
        due("UNKNOWN", PanelPages.UNKNOWN, -1);
        due("OUTSIDE", PanelPages.OUTSIDE, -2);
        due("STATE", PanelPages.STATE, -3);
        due("FULL", PanelPages.FULL, -4);
        due("NO", PanelPages.NO, -5);
        due("NONE", PanelPages.NONE, -6);
        due("FAULT", PanelPages.FAULT, -7);
    }

    private void promise1() {
        begin(1);
        counts(0, 10, 0, 0, 0);
        due("of(0, 0)", x.of(0, 0), -1);
        due("wipe()", x.wipe(), 0);
        due("restore(0)", x.restore(0), -3);
        due("restore(1)", x.restore(1), -3);
        due("high(10)", x.high(10), 10);
        PanelPages other = new PanelPages();
        other.panel(1, 1, 0);
        other.say(50);
        other.image(1);
        other.high(20);
        counts(0, 10, 0, 0, 0);
    }

    private void promise2() {
        begin(2);
        int[][] wrong = {{0, 1, 0}, {10, 1, 0}, {1, 0, 0}, {1, 7, 0}, {1, 1, -1}, {1, 1, 4}, {LOW, 1, 0}, {1, TOP, 0}, {1, 1, LOW}};
        for (int[] w : wrong) {
            due("panel, wrong", x.panel(w[0], w[1], w[2]), -2);
        }
        due("count(0)", x.count(0), 0);
        due("panel(1, 1, 0)", x.panel(1, 1, 0), 0);
        due("panel(9, 6, 3)", x.panel(9, 6, 3), 1);
        for (int i = 2; i < 9; i++) {
            due("panel(" + i + ")", x.panel(i, 2, i % 4), i);
        }
        due("panel, a tenth", x.panel(1, 1, 0), -4);
        for (int[] w : wrong) {
            due("panel, wrong and full", x.panel(w[0], w[1], w[2]), -2);
        }
        due("count(0)", x.count(0), 9);
        due("of(1, 0)", x.of(1, 0), 9);
        due("of(1, 1)", x.of(1, 1), 6);
        due("of(1, 2)", x.of(1, 2), 3);
        due("of(8, 0)", x.of(8, 0), 8);
    }

    private void promise3() {
        begin(3);
        due("pop()", x.pop(), -5);
        panels(PLAIN, 1, PLAIN, 2);
        talks(0, "01");
        talks(1, "123");
        due("pop()", x.pop(), 1);
        counts(1, 10, 0, 2, 0);
        due("of(1, 0)", x.of(1, 0), -1);
        due("panel(3, 3, 3)", x.panel(3, 3, 3), 1);
        due("of(1, 3), new again", x.of(1, 3), 0);
        due("speaker(1, 0), new again", x.speaker(1, 0), -6);
        due("count(3)", x.count(3), 2);
        due("pop()", x.pop(), 1);
        due("pop()", x.pop(), 0);
        due("pop()", x.pop(), -5);
        counts(0, 10, 0, 0, 0);
    }

    private void promise4() {
        begin(4);
        due("change(0, 0, 1)", x.change(0, 0, 1), -1);
        x.panel(2, 3, 1);
        x.panel(4, 5, 0);
        int[][] edges = {{0, 1, 9, 2}, {1, 1, 6, 3}, {2, 0, 3, 1}};
        for (int[] e : edges) {
            due("change, below", x.change(0, e[0], e[1] - 1), -2);
            due("change, above", x.change(0, e[0], e[2] + 1), -2);
            due("of, refused", x.of(0, e[0]), e[3]);
            due("change, least", x.change(0, e[0], e[1]), e[3]);
            due("change, most", x.change(0, e[0], e[2]), e[1]);
            due("of", x.of(0, e[0]), e[2]);
        }
        due("change(1, 3, 1)", x.change(1, 3, 1), -2);
        due("change(1, -1, 1)", x.change(1, -1, 1), -2);
        due("change(1, LOW, 1)", x.change(1, LOW, 1), -2);
        due("change(2, 0, 1)", x.change(2, 0, 1), -1);
        due("change(-1, 7, 70)", x.change(-1, 7, 70), -1);
        due("change(TOP, 0, 1)", x.change(TOP, 0, 1), -1);
        due("of(1, 0)", x.of(1, 0), 4);
        due("of(1, 1)", x.of(1, 1), 5);
        talks(1, "31");
        due("change(1, 2, 2)", x.change(1, 2, 2), 0);
        due("of(1, 3)", x.of(1, 3), 2);
    }

    private void promise5() {
        begin(5);
        due("high(5)", x.high(5), -2);
        due("high(21)", x.high(21), -2);
        due("high(LOW)", x.high(LOW), -2);
        due("high(TOP)", x.high(TOP), -2);
        due("high(6)", x.high(6), 10);
        due("high(20)", x.high(20), 6);
        due("count(1)", x.count(1), 20);
        due("high(20)", x.high(20), 20);
    }

    private void promise6() {
        begin(6);
        due("of(0, 9)", x.of(0, 9), -1);
        x.panel(7, 5, 3);
        talks(0, "0123");
        int[] want = {7, 5, 3, 4};
        for (int what = 0; what < 4; what++) {
            due("of(0, " + what + ")", x.of(0, what), want[what]);
        }
        due("of(0, -1)", x.of(0, -1), -2);
        due("of(0, 4)", x.of(0, 4), -2);
        due("of(1, 4)", x.of(1, 4), -1);
        due("of(-1, 0)", x.of(-1, 0), -1);
        due("of(LOW, 0)", x.of(LOW, 0), -1);
    }

    private void promise7() {
        begin(7);
        due("tier(0, 9, 9)", x.tier(0, 9, 9), -1);
        int[][] told = {{3, 2, 0}, {3, 6, 1}, {3, 4, 2}, {3, 1, 3}, {7, 3, 0}};
        for (int[] t : told) {
            x.panel(t[0], t[1], t[2]);
        }
        due("tier(0, 4, 0)", x.tier(0, 4, 0), 6);
        due("tier(0, 4, 1)", x.tier(0, 4, 1), 4 + 0 + 2 + 5);
        due("tier(0, 1, 0), a taller one behind it", x.tier(0, 1, 0), 2);
        due("tier(2, 2, 1), a taller one ahead of it", x.tier(2, 2, 1), 3);
        due("tier(2, 1, 0)", x.tier(2, 1, 0), 4);
        due("tier(2, 1, 1)", x.tier(2, 1, 1), 0);
        due("tier(2, 1, 10)", x.tier(2, 1, 10), 12);
        due("tier(0, 4, 13)", x.tier(0, 4, 13), 3);
        // 36, 36, 36 and 84 by 16: 2, 2, 2, 5 and 4, 4, 4, 4 cut off: the one left goes to the first.
        due("tier(1, 4, 10)", x.tier(1, 4, 10), 3);
        due("tier(1, 4, 11)", x.tier(1, 4, 11), 2);
        due("tier(1, 4, 12)", x.tier(1, 4, 12), 2);
        due("tier(1, 4, 13)", x.tier(1, 4, 13), 5);
        // 36, 36 and 84 by 13: 2, 2, 6 and 10, 10, 6 cut off: the two left go to the first two.
        due("tier(2, 3, 10)", x.tier(2, 3, 10), 3);
        due("tier(2, 3, 11)", x.tier(2, 3, 11), 3);
        due("tier(2, 3, 12)", x.tier(2, 3, 12), 6);
        // 12 and 84 by 8: 1, 10 and 4, 4 cut off.
        x.change(3, 0, 1);
        due("tier(3, 2, 10)", x.tier(3, 2, 10), 2);
        due("tier(3, 2, 11)", x.tier(3, 2, 11), 10);
        // 12 and 108 by 10: 1, 10 and 2, 8 cut off: most was cut off the second.
        x.change(4, 0, 9);
        due("tier(3, 2, 10)", x.tier(3, 2, 10), 1);
        due("tier(3, 2, 11)", x.tier(3, 2, 11), 11);
        int[][] wrong = {{0, 0, 0}, {0, 5, 0}, {0, -1, 0}, {2, 4, 0}, {4, 2, 0}, {0, TOP, 0}, {0, LOW, 0},
            {0, 2, -1}, {0, 2, 2}, {0, 2, 9}, {0, 2, 12}, {0, 4, 14}, {0, 2, LOW}, {0, 2, TOP}};
        for (int[] w : wrong) {
            due("tier(" + w[0] + ", " + w[1] + ", " + w[2] + ")", x.tier(w[0], w[1], w[2]), -2);
        }
        due("tier(5, 0, 0)", x.tier(5, 0, 0), -1);
        due("tier(-1, 1, 0)", x.tier(-1, 1, 0), -1);
        due("tier(TOP, 1, 0)", x.tier(TOP, 1, 0), -1);
    }

    private void promise8() {
        begin(8);
        due("say(32)", x.say(32), -2);
        due("say(127)", x.say(127), -2);
        due("say(LOW)", x.say(LOW), -2);
        due("say(TOP)", x.say(TOP), -2);
        due("count(2)", x.count(2), 0);
        due("say(33)", x.say(33), 1);
        due("say(126)", x.say(126), 2);
        for (int i = 3; i <= 9; i++) {
            due("say", x.say(48), i);
        }
        due("say, a tenth", x.say(48), -4);
        due("say(32), full", x.say(32), -2);
        due("count(2)", x.count(2), 9);
    }

    private void promise9() {
        begin(9);
        due("wipe()", x.wipe(), 0);
        x.panel(1, 1, 0);
        x.say(33);
        x.say(34);
        due("wipe()", x.wipe(), 2);
        counts(1, 10, 0, 0, 0);
        due("wipe()", x.wipe(), 0);
        due("say(50)", x.say(50), 1);
        due("judge(0)", x.judge(0), -6);
    }

    private void promise10() {
        begin(10);
        judged("", -6, -6);
        due("judge(-1)", x.judge(-1), -2);
        due("judge(2)", x.judge(2), -2);
        write("2");
        due("judge(0), one too many", x.judge(0), -7);
        due("judge(2), one too many", x.judge(2), -2);
        panels(PLAIN, 1, PLAIN, 1);
        write("2");
        due("judge(0), one too few", x.judge(0), -7);
        write("23");
        due("judge(0), another figure", x.judge(0), -7);
        write("/2");
        due("judge(1), another sign", x.judge(1), -7);
        judged("02", 0, 1);
        judged("12", 0, 1);
        judged("20", -6, -6);
        due("count(2) behind judge", x.count(2), 2);
        reasonsOfTiers();
        reasonsOfPages();
        reasonsOfHeight();
    }

    private void reasonsOfTiers() {
        panels(PLAIN, 1, PLAIN, 1, PLAIN, 1, PLAIN, 1, ALONE, 1, PLAIN, 1);
        judged("200001", 4, 2);
        judged("200010", 5, 3);
        judged("201000", 4, 3);
        judged("200011", -6, -6);
        panels(PLAIN, 1, PLAIN, 1, PLAIN, 1, PLAIN, 1, PLAIN, 1, PLAIN, 1);
        judged("210000", 5, 2);
        judged("210002", -6, -6);
        panels(PLAIN, 1, PLAIN, 1, PLAIN, 1, PLAIN, 1, SPREAD, 6);
        judged("20000", 4, 2);
        judged("20100", 4, 3);
        judged("20101", 4, 4);
        judged("20102", -6, -6);
    }

    private void reasonsOfPages() {
        panels(SPREAD, 1, PLAIN, 1);
        judged("20", 1, 3);
        judged("21", 1, 4);
        judged("22", -6, -6);
        panels(PLAIN, 1, REVEAL, 1, PLAIN, 1);
        judged("200", 1, 4);
        judged("210", 1, 4);
        judged("220", -6, -6);
        judged("221", -6, -6);
        panels(ALONE, 1, REVEAL, 1);
        judged("20", 1, 3);
        judged("21", 1, 4);
    }

    private void reasonsOfHeight() {
        panels(PLAIN, 4, PLAIN, 6, PLAIN, 1, PLAIN, 5);
        judged("2111", 2, 5);
        judged("2100", -6, -6);
        judged("2001", 3, 5);
        judged("2000", -6, -6);
        x.high(11);
        judged("2111", 3, 5);
        judged("2001", -6, -6);
        x.high(6);
        judged("2100", 1, 5);
        judged("2000", -6, -6);
        // The tier grows by a panel that goes on in it.
        panels(PLAIN, 4, PLAIN, 4, PLAIN, 6, PLAIN, 6);
        x.high(9);
        judged("2100", 2, 5);
        judged("2102", 2, 5);
        x.high(10);
        judged("2100", -6, -6);
        // Nothing is left over from a panel as it was.
        panels(PLAIN, 3, PLAIN, 3, PLAIN, 6);
        x.high(6);
        judged("222", -6, -6);
        x.change(2, 1, 3);
        judged("210", -6, -6);
        // Higher reasons come last: a height too great tells nothing where a lesser reason fits.
        panels(PLAIN, 6, ALONE, 6, REVEAL, 6);
        judged("202", 1, 3);
        judged("211", 1, 5);
        judged("221", 2, 4);
    }

    private void promise11() {
        begin(11);
        tolds("", 0, 0, 0, 0);
        due("told(-1)", x.told(-1), -2);
        due("told(4)", x.told(4), -2);
        write("2");
        due("told(4), one too many", x.told(4), -2);
        due("told(0), one too many", x.told(0), -7);
        panels(PLAIN, 4, PLAIN, 2, PLAIN, 5, PLAIN, 1);
        write("2013");
        due("told(0), another figure", x.told(0), -7);
        write("0000");
        due("told(0), does not go", x.told(0), -5);
        tolds("2010", 1, 1 + 2 + 4, 2, 0);
        tolds("2000", 1, 25 + 1 + 3 + 0 + 4, 1, 0);
        tolds("2222", 4, 36 + 64 + 25 + 81, 4, 0);
        due("count(2) behind told", x.count(2), 4);
        panels(REVEAL, 6, REVEAL, 6, PLAIN, 6, REVEAL, 6);
        tolds("2222", 6, 100 + 16 + 100 + 16 + 16 + 16, 4, 2);
        tolds("2202", 6, 100 + 16 + 100 + 16 + 100 + 16, 3, 3);
        panels(SPREAD, 1, SPREAD, 1);
        tolds("22", 5, 100, 2, 1);
        // Blank, two of a spread, a page, blank, two of a spread, a page.
        panels(SPREAD, 6, PLAIN, 2, SPREAD, 1, PLAIN, 6);
        x.high(6);
        tolds("2222", 8, 36 + 16 + 36 + 0, 4, 2);
        panels(PLAIN, 1, SPREAD, 1, PLAIN, 1, PLAIN, 1, REVEAL, 1);
        tolds("22222", 6, 81 + 81 + 81 + 81, 5, 0);
        tolds("22202", 6, 81 + 81 + 100 + 81, 4, 1);
        // Nothing is left over from panels that went.
        x.pop();
        x.pop();
        tolds("222", 4, 81 + 81, 3, 0);
        panels(PLAIN, 1, PLAIN, 1, PLAIN, 1, PLAIN, 1, PLAIN, 1, PLAIN, 1, PLAIN, 1, PLAIN, 1, PLAIN, 3);
        tolds("200010002", 2, 64 + 49, 3, 0);
    }

    private void promise12() {
        begin(12);
        due("at(0, 9)", x.at(0, 9), -1);
        panels(PLAIN, 3, PLAIN, 3, PLAIN, 3, SPREAD, 3, REVEAL, 3, PLAIN, 3, ALONE, 3);
        x.change(0, 0, 5);
        x.change(1, 0, 2);
        write("2012201");
        ats(0, 0, 0, 0, 9);
        ats(1, 0, 0, 1, 3);
        ats(2, 0, 1, 0, 12);
        ats(3, 1, 0, 0, 24);
        ats(4, 3, 0, 0, 6);
        ats(5, 3, 0, 1, 6);
        ats(6, 3, 1, 0, 12);
        due("at(7, 0)", x.at(7, 0), -1);
        due("at(-1, 9)", x.at(-1, 9), -1);
        due("at(0, 4)", x.at(0, 4), -2);
        due("at(0, -1)", x.at(0, -1), -2);
        write("201220");
        due("at(0, 4), too few", x.at(0, 4), -2);
        due("at(0, 0), too few", x.at(0, 0), -7);
        write("2012200");
        due("at(0, 0), does not go", x.at(0, 0), -5);
        write("201220x");
        due("at(0, 0), another sign", x.at(0, 0), -7);
        panels(PLAIN, 1, PLAIN, 1, PLAIN, 1, PLAIN, 1);
        write("2110");
        ats(2, 0, 2, 0, 6);
        ats(3, 0, 2, 1, 6);
        write("2120");
        ats(1, 0, 1, 0, 12);
        ats(2, 1, 0, 0, 6);
        ats(3, 1, 0, 1, 6);
        // Nothing is left over from panels that went.
        x.pop();
        write("210");
        ats(2, 0, 1, 1, 6);
        panels(SPREAD, 1, REVEAL, 1, SPREAD, 1);
        write("222");
        ats(0, 1, 0, 0, 24);
        ats(1, 3, 0, 0, 12);
        ats(2, 5, 0, 0, 24);
        due("count(2) behind at", x.count(2), 3);
    }

    private void promise13() {
        begin(13);
        bests(0, 0, 1, 1, "");
        int[] wrong = {-1, 4, 9, 19, LOW, TOP};
        for (int w : wrong) {
            due("best(" + w + ")", x.best(w), -2);
        }
        panels(PLAIN, 1);
        bests(1, 81, 1, 1, "2");
        // One below the other: 8 * 8; side by side: 9 * 9.
        panels(PLAIN, 1, PLAIN, 1);
        bests(1, 64, 3, 2, "21");
        // With talls 1 and 2 side by side: 8 * 8 + 1; one below the other: 7 * 7.
        panels(PLAIN, 1, PLAIN, 2);
        bests(1, 49, 3, 2, "21");
        panels(PLAIN, 6, PLAIN, 6, PLAIN, 6);
        x.high(6);
        bests(1, 0, 4, 1, "200");
        // Of the same pages and the same RAGGED, "20002", "20020", "20200" and "22000", the first.
        panels(PLAIN, 6, PLAIN, 6, PLAIN, 6, PLAIN, 6, PLAIN, 6);
        x.high(6);
        bests(2, 0, 15, 4, "20002");
        x.high(12);
        due("best(0), high 12", x.best(0), 1);
        due("best(3), high 12", x.best(3), 4);
        due("best(14), high 12", x.best(14), 1);
        // Fewest pages go before even ones.
        panels(PLAIN, 1, PLAIN, 6);
        x.high(6);
        bests(1, 5, 2, 1, "20");
        // The reveal has its left page when one page is ahead, so two pages ahead are worse.
        panels(PLAIN, 1, PLAIN, 1, REVEAL, 1, PLAIN, 2);
        bests(2, 64 + 49, 9, 4, "2121");
        x.pop();
        bests(2, 64 + 81, 3, 2, "212");
        x.pop();
        bests(1, 64, 3, 2, "21");
        // Two pages ahead are as many as one and a blank one, and evener.
        panels(SPREAD, 1, PLAIN, 1, PLAIN, 1, REVEAL, 1);
        bests(6, 100 + 81 + 81 + 81, 3, 3, "2222");
        panels(REVEAL, 6, ALONE, 6, SPREAD, 2, PLAIN, 2);
        bests(6, 100 + 16 + 16 + 64, 1, 1, "2222");
        // Just four in a tier bound it: g(n) = 2 * (g(n - 1) + .. + g(n - 4)), g(0) = 1; half of g(9) go.
        panels(PLAIN, 1, PLAIN, 1, PLAIN, 1, PLAIN, 1, PLAIN, 1, PLAIN, 1, PLAIN, 1, PLAIN, 1, PLAIN, 1);
        bests(1, 1, 6264, 208, "211111111");
        panels(SPREAD, 1, SPREAD, 1, SPREAD, 1, SPREAD, 1, SPREAD, 1, SPREAD, 1, SPREAD, 1, SPREAD, 1, SPREAD, 1);
        bests(19, 100, 1, 1, "222222222");
        due("count(2) behind best", x.count(2), 0);
    }

    private void promise14() {
        begin(14);
        x.say(60);
        due("lay()", x.lay(), 0);
        due("count(2)", x.count(2), 0);
        panels(PLAIN, 4, PLAIN, 4, PLAIN, 6, ALONE, 3, PLAIN, 4);
        write("999999999");
        due("lay()", x.lay(), 5);
        due("count(2)", x.count(2), 5);
        due("judge(0)", x.judge(0), -6);
        due("told(0)", x.told(0), x.best(0));
        due("told(1)", x.told(1), x.best(1));
        due("say(48)", x.say(48), 6);
        due("lay()", x.lay(), 5);
        due("judge(1)", x.judge(1), -6);
        panels(REVEAL, 6, SPREAD, 6, REVEAL, 6);
        due("lay()", x.lay(), 3);
        due("told(0)", x.told(0), 6);
    }

    private void promise15() {
        begin(15);
        write("4");
        due("talk(0)", x.talk(0), -1);
        due("count(2), refused", x.count(2), 1);
        panels(PLAIN, 1, PLAIN, 1);
        write("04");
        due("talk(0), another figure", x.talk(0), -7);
        due("talk(2)", x.talk(2), -1);
        due("talk(-1)", x.talk(-1), -1);
        write("/");
        due("talk(0), another sign", x.talk(0), -7);
        write("01230");
        due("talk(0), too many", x.talk(0), -7);
        due("count(2), refused", x.count(2), 5);
        due("of(0, 3), refused", x.of(0, 3), 0);
        write("0123");
        due("talk(1)", x.talk(1), 4);
        due("count(2), emptied", x.count(2), 0);
        due("of(0, 3)", x.of(0, 3), 0);
        due("of(1, 3)", x.of(1, 3), 4);
        talks(0, "32");
        due("speaker(0, 0)", x.speaker(0, 0), 3);
        due("speaker(1, 0)", x.speaker(1, 0), 0);
        talks(1, "2");
        due("speaker(1, 0)", x.speaker(1, 0), 2);
        due("speaker(1, 1)", x.speaker(1, 1), -6);
        due("talk(1), no signs", x.talk(1), 0);
        due("of(1, 3)", x.of(1, 3), 0);
        due("count(3)", x.count(3), 2);
    }

    private void promise16() {
        begin(16);
        due("speaker(0, -1)", x.speaker(0, -1), -1);
        panels(PLAIN, 1, PLAIN, 1);
        due("speaker(0, 0)", x.speaker(0, 0), -6);
        talks(0, "3102");
        int[] want = {3, 1, 0, 2};
        for (int i = 0; i < 4; i++) {
            due("speaker(0, " + i + ")", x.speaker(0, i), want[i]);
        }
        due("speaker(0, 4)", x.speaker(0, 4), -6);
        due("speaker(0, -1)", x.speaker(0, -1), -6);
        due("speaker(0, LOW)", x.speaker(0, LOW), -6);
        due("speaker(0, TOP)", x.speaker(0, TOP), -6);
        due("speaker(1, 0)", x.speaker(1, 0), -6);
        due("speaker(2, 0)", x.speaker(2, 0), -1);
        due("speaker(-1, 0)", x.speaker(-1, 0), -1);
    }

    private void goods(String speakers, int good, int deep, int few, int... first) {
        talks(0, speakers);
        due("good(0, 0) of " + speakers, x.good(0, 0), good);
        due("good(0, 1) of " + speakers, x.good(0, 1), deep);
        due("good(0, 2) of " + speakers, x.good(0, 2), few);
        for (int i = 0; i < 4; i++) {
            due("good(0, " + (10 + i) + ") of " + speakers, x.good(0, 10 + i), i < first.length ? first[i] : -6);
        }
    }

    private void promise17() {
        begin(17);
        due("good(0, 9)", x.good(0, 9), -1);
        panels(PLAIN, 1);
        int[] wrong = {-1, 3, 9, 14, LOW, TOP};
        for (int w : wrong) {
            due("good(0, " + w + ")", x.good(0, w), -2);
        }
        due("good(1, 3)", x.good(1, 3), -1);
        goods("", 1, 0, 1);
        goods("0", 6, 1, 2, 0);
        goods("1", 9, 1, 3, 0);
        // Side by side: columns 0 and 1 in each of 3 rows; one below the other: not in column 0.
        goods("00", 3 + 3 * 2 * 1, 1, 1, 0, 1);
        // The latter speaker stands further left: never in one row.
        goods("30", 3 * 2 * 2, 2, 4, 2, 4);
        goods("03", 3 * 4 + 3 * 4, 1, 4, 0, 2);
        // A row for each, and there are just three rows.
        goods("3210", 0, -6, -6);
        goods("0123", 46, 1, 1, 0, 1, 2, 3);
        goods("3030", 4, 3, 4, 2, 4, 6, 9);
        goods("1111", 39, 2, 5, 0, 1, 2, 4);
        goods("2020", 9, 3, 9, 1, 4, 5, 9);
        due("count(2) behind good", x.count(2), 0);
    }

    private void promise18() {
        begin(18);
        due("isGood(0)", x.isGood(0), -1);
        panels(PLAIN, 1, PLAIN, 1);
        isGood(1, "", 1);
        isGood(1, "00", -7);
        talks(0, "1");
        isGood(0, "", -7);
        isGood(0, "0", -7);
        isGood(0, "000", -7);
        isGood(0, "30", -7);
        isGood(0, "04", -7);
        isGood(0, "/0", -7);
        isGood(2, "4444", -1);
        isGood(-1, "", -1);
        isGood(0, "00", 1);
        isGood(0, "22", 1);
        isGood(0, "13", 0);
        talks(0, "12");
        isGood(0, "0030", -7);
        isGood(0, "0004", -7);
        isGood(0, "0001", 1);
        isGood(0, "0201", 0);
        isGood(0, "0101", 0);
        isGood(0, "1101", 0);
        isGood(0, "1112", 1);
        // The latter hides the tail of the former.
        isGood(0, "0011", 0);
        isGood(0, "0013", 1);
        isGood(0, "0021", 0);
        // In one row nothing is hidden.
        isGood(0, "0001", 1);
        talks(0, "21");
        isGood(0, "0102", 0);
        isGood(0, "0111", 1);
        isGood(0, "0110", 1);
        isGood(0, "0112", 0);
        talks(0, "22");
        isGood(0, "0102", 1);
        // The third hides the tail of the first, over the row between, or of the second.
        talks(0, "201");
        isGood(0, "011121", 1);
        isGood(0, "011122", 0);
        isGood(0, "011120", 0);
        // Nothing hides the tail of one that comes only later, and a row may be left empty.
        talks(0, "1213");
        isGood(0, "01021013", 1);
        isGood(0, "01021023", 1);
        isGood(0, "01021012", 0);
        isGood(0, "01020013", 0);
        isGood(0, "000102", -7);
    }

    private void promise19() {
        begin(19);
        due("image(-1)", x.image(-1), -2);
        due("image(2)", x.image(2), -2);
        due("image(LOW)", x.image(LOW), -2);
        counts(0, 10, 0, 0, 0);
        due("image(1)", x.image(1), 1);
        counts(0, 10, 0, 0, 2);
        due("image(0)", x.image(0), 1);
        counts(0, 10, 0, 0, 3);
        x.panel(1, 2, 3);
        due("image(0), in place of what was kept", x.image(0), 1);
        x.pop();
        due("restore(0)", x.restore(0), 1);
        due("count(0)", x.count(0), 1);
        due("restore(1)", x.restore(1), 1);
        due("count(0)", x.count(0), 0);
    }

    private void promise20() {
        begin(20);
        due("restore(-1)", x.restore(-1), -2);
        due("restore(2)", x.restore(2), -2);
        due("restore(0)", x.restore(0), -3);
        panels(PLAIN, 4, ALONE, 5);
        talks(1, "31");
        x.high(15);
        write("ab");
        due("image(0)", x.image(0), 1);
        due("restore(1)", x.restore(1), -3);
        x.change(0, 0, 8);
        x.change(0, 1, 1);
        x.change(0, 2, 3);
        talks(1, "000");
        x.panel(1, 1, 0);
        x.high(6);
        write("xyz");
        x.image(1);
        for (int again = 0; again < 2; again++) {
            due("restore(0)", x.restore(0), 1);
            counts(2, 15, 3, 2, 3);
            due("of(0, 0)", x.of(0, 0), 1);
            due("of(0, 1)", x.of(0, 1), 4);
            due("of(0, 2)", x.of(0, 2), 0);
            due("speaker(1, 0)", x.speaker(1, 0), 3);
            due("speaker(1, 1)", x.speaker(1, 1), 1);
            // The image stays as it was, whatever is done to what came out of it.
            x.change(0, 0, 5);
            x.high(7);
            x.pop();
        }
        due("restore(1)", x.restore(1), 1);
        counts(3, 6, 3, 3, 3);
        due("of(0, 0)", x.of(0, 0), 8);
        due("speaker(1, 2)", x.speaker(1, 2), 0);
        due("best(0), as things are now", x.best(0), 3);
        panels(PLAIN, 1, PLAIN, 1, PLAIN, 1, PLAIN, 1, PLAIN, 1, PLAIN, 1, PLAIN, 1, PLAIN, 1, ALONE, 5);
        talks(8, "3213");
        x.image(1);
        talks(8, "0000");
        x.change(8, 0, 9);
        x.change(8, 1, 2);
        x.change(8, 2, 3);
        due("restore(1)", x.restore(1), 1);
        int[] last = {1, 5, 1, 4};
        int[] speakers = {3, 2, 1, 3};
        for (int i = 0; i < 4; i++) {
            due("of(8, " + i + ")", x.of(8, i), last[i]);
            due("speaker(8, " + i + ")", x.speaker(8, i), speakers[i]);
        }
    }

    private void promise21() {
        begin(21);
        due("count(-1)", x.count(-1), -2);
        due("count(5)", x.count(5), -2);
        due("count(LOW)", x.count(LOW), -2);
        due("count(TOP)", x.count(TOP), -2);
        for (int i = 0; i < 9; i++) {
            x.panel(1, 1, 0);
            talks(i, "0123");
        }
        x.high(13);
        x.image(1);
        write("012345678");
        counts(9, 13, 9, 36, 2);
        x.pop();
        counts(8, 13, 9, 32, 2);
        x.image(0);
        counts(8, 13, 9, 32, 3);
    }

    public static void main(String[] args) {
        PromisesTest t = new PromisesTest();
        t.constants();
        t.promise1();
        t.promise2();
        t.promise3();
        t.promise4();
        t.promise5();
        t.promise6();
        t.promise7();
        t.promise8();
        t.promise9();
        t.promise10();
        t.promise11();
        t.promise12();
        t.promise13();
        t.promise14();
        t.promise15();
        t.promise16();
        t.promise17();
        t.promise18();
        t.promise19();
        t.promise20();
        t.promise21();
        t.check.end();
    }
}
