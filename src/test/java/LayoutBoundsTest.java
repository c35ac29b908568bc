import java.io.IOException;

/** Boundary cases of promises 8 to 14. */
public final class LayoutBoundsTest extends Sentences {
    private static final String ALL_OTHER_SIGNS = signsBut('0', '2');

    private static String signsBut(char least, char most) {
        StringBuilder signs = new StringBuilder();
        for (char sign = 33; sign <= 126; sign++) {
            if (sign < least || sign > most) {
                signs.append(sign);
            }
        }
        return signs.toString();
    }

    /** Three panels whose layout on the pad goes. */
    private static void goes(Desk d) {
        d.talls(4, 2, 5).balloons(1, "30").keep(1).pad("201");
    }

    private static void doesNotGo(Desk d) {
        d.talls(4, 2, 5).keep(0).balloons(1, "30").pad("102");
    }

    private static void isNoLayout(Desk d) {
        d.talls(4, 2, 5).keep(0).balloons(1, "30").pad("0123");
    }

    private static void fullPad(Desk d) {
        d.talls(1, 1, 1, 1, 1, 1, 1, 1, 1).keep(1).pad("201201201");
    }

    private void judged(String layout, int place, int why) {
        x.pad(layout);
        due("judge(0) of " + layout, x.judge(0), place);
        due("judge(1) of " + layout, x.judge(1), why);
    }

    private void tolds(String layout, int pages, int ragged, int tiers, int blanks) {
        judged(layout, NONE, NONE);
        due("told(0) of " + layout, x.told(0), pages);
        due("told(1) of " + layout, x.told(1), ragged);
        due("told(2) of " + layout, x.told(2), tiers);
        due("told(3) of " + layout, x.told(3), blanks);
    }

    private void ats(int panel, int page, int tier, int place, int width) {
        due("at(" + panel + ", 0)", x.at(panel, 0), page);
        due("at(" + panel + ", 1)", x.at(panel, 1), tier);
        due("at(" + panel + ", 2)", x.at(panel, 2), place);
        due("at(" + panel + ", 3)", x.at(panel, 3), width);
    }

    private void bests(int pages, int ragged, int go, int few, String layout) {
        due("best(0)", x.best(0), pages);
        due("best(1)", x.best(1), ragged);
        due("best(2)", x.best(2), go);
        due("best(3)", x.best(3), few);
        for (int i = 0; i < 9; i++) {
            due("best(" + (10 + i) + ")", x.best(10 + i), i < layout.length() ? layout.charAt(i) - '0' : NONE);
        }
    }

    // ---- promise 8

    @Says("OUTSIDE: it is not 33 to 126")
    void promise8SignsAre33To126() {
        refused(OUTSIDE, "say(sign), empty", d -> { }, beside(33, 126), (d, v) -> d.say(v));
        refused(OUTSIDE, "say(sign)", LayoutBoundsTest::goes, beside(33, 126), (d, v) -> d.say(v));
        for (int sign = 33; sign <= 126; sign++) {
            due("say(" + sign + ")", x.say(sign), 1);
            due("wipe()", x.wipe(), 1);
        }
    }

    @Says({"A sign more on THE PAD: how many", "FULL: there are 9."})
    void promise8NineSignsAreFull() {
        for (int many = 1; many <= 9; many++) {
            due("say(126)", x.say(126), many);
            due("count(2)", x.count(2), many);
        }
        refused(FULL, "say(sign), full", LayoutBoundsTest::fullPad, from(33, 126), (d, v) -> d.say(v));
        due("say(33), full", x.say(33), FULL);
        due("wipe()", x.wipe(), 9);
        due("say(33), empty again", x.say(33), 1);
    }

    @Says({"OUTSIDE: it is not 33 to 126; FULL: there are 9.", "answer the first that fits"})
    void promise8OutsideGoesBeforeFull() {
        refused(OUTSIDE, "say(sign), full", LayoutBoundsTest::fullPad, beside(33, 126), (d, v) -> d.say(v));
    }

    // ---- promise 9

    @Says("THE PAD is empty: how many signs it had")
    void promise9ZeroToNineSigns() {
        for (int many = 0; many <= 9; many++) {
            x.pad("!!!!!!!!!".substring(0, many));
            due("wipe()", x.wipe(), many);
            due("count(2)", x.count(2), 0);
            due("wipe(), empty", x.wipe(), 0);
        }
    }

    @Says("THE PAD is empty")
    void promise9OnlyThePadIsWiped() {
        goes(x);
        String before = new Desk().talls(4, 2, 5).balloons(1, "30").keep(1).everything();
        due("wipe()", x.wipe(), 3);
        same("all but the pad", x.everything(), before);
    }

    // ---- promise 10

    @Says("the first place, from 0 on, of a figure that can not be (what = 0; NONE: it GOES), why (1; NONE, likewise)")
    void promise10WhatIsZeroOrOne() {
        refused(OUTSIDE, "judge(what), it goes", LayoutBoundsTest::goes, beside(0, 1), (d, v) -> d.judge(v));
        refused(OUTSIDE, "judge(what), it does not", LayoutBoundsTest::doesNotGo, beside(0, 1), (d, v) -> d.judge(v));
        asks(NONE, "judge(0)", LayoutBoundsTest::goes, (d, v) -> d.judge(0));
        asks(NONE, "judge(1)", LayoutBoundsTest::goes, (d, v) -> d.judge(1));
        asks(0, "judge(0)", LayoutBoundsTest::doesNotGo, (d, v) -> d.judge(0));
        asks(1, "judge(1)", LayoutBoundsTest::doesNotGo, (d, v) -> d.judge(1));
    }

    @Says({"OUTSIDE; FAULT", "answer the first that fits"})
    void promise10OutsideGoesBeforeFault() {
        refused(OUTSIDE, "judge(what), no layout", LayoutBoundsTest::isNoLayout, beside(0, 1), (d, v) -> d.judge(v));
        refused(FAULT, "judge(what)", LayoutBoundsTest::isNoLayout, from(0, 1), (d, v) -> d.judge(v));
    }

    @Says("FAULT: it has other signs")
    void promise10FiguresAreZeroToTwo() {
        for (char sign : ALL_OTHER_SIGNS.toCharArray()) {
            x = new Desk().talls(1).pad(String.valueOf(sign));
            due("judge(0) of " + sign, x.judge(0), FAULT);
            due("judge(1) of " + sign, x.judge(1), FAULT);
        }
        for (int place = 0; place < 9; place++) {
            x = new Desk().alike(9, 1, PLAIN);
            for (char sign : new char[] {'/', '3'}) {
                x.pad("222222222".substring(0, place) + sign + "222222222".substring(place + 1));
                due("judge(0), " + sign + " at " + place, x.judge(0), FAULT);
            }
            x.pad("222222222");
            due("judge(0)", x.judge(0), NONE);
        }
    }

    @Says({"as many as there are PANELS", "or not as many"})
    void promise10AsManyFiguresAsPanels() {
        for (int panels = 0; panels <= 9; panels++) {
            x = new Desk().alike(panels, 1, 0);
            for (int signs = 0; signs <= 9; signs++) {
                x.pad("222222222".substring(0, signs));
                due("judge(0), " + panels + " panels, " + signs + " signs", x.judge(0), signs == panels ? NONE : FAULT);
                due("judge(1), " + panels + " panels, " + signs + " signs", x.judge(1), signs == panels ? NONE : FAULT);
            }
        }
    }

    @Says("NONE -6 is answered only where no refusal fits")
    void promise10FaultGoesBeforeNoneAndBeforeAPlace() {
        x.talls(1, 1);
        judged("22", NONE, NONE);
        judged("222", FAULT, FAULT);
        judged("2", FAULT, FAULT);
        // The first figure can not be, yet a later sign makes it no layout at all.
        judged("03", FAULT, FAULT);
        judged("002", FAULT, FAULT);
    }

    @Says("1 it is not 2, and there is no PANEL ahead")
    void promise10FirstFigureIsTwo() {
        for (int kind = 0; kind <= 3; kind++) {
            // Of all reasons that fit the least is told: so for ALONE, SPREAD and REVEAL, too.
            x = new Desk().put(1, 6, kind).withHigh(6);
            judged("0", 0, 1);
            judged("1", 0, 1);
            judged("2", NONE, NONE);
        }
        x = new Desk().talls(1, 1);
        judged("00", 0, 1);
        judged("12", 0, 1);
        judged("22", NONE, NONE);
    }

    @Says("2 it is 0, and the TIER has 4 PANELS already")
    void promise10FourInATier() {
        x.alike(9, 1, PLAIN);
        judged("200012000", NONE, NONE);
        judged("200011000", NONE, NONE);
        judged("200012001", NONE, NONE);
        judged("200001000", 4, 2);
        judged("210000111", 5, 2);
        judged("220000111", 5, 2);
        judged("200020000", 8, 2);
        judged("200010000", 8, 2);
        judged("211110000", 8, 2);
        judged("211111000", NONE, NONE);
    }

    @Says({"3 it is 0, and this PANEL, or the one ahead, is ALONE or a SPREAD", "for the least of these reasons"})
    void promise10GoingOnOfAllKinds() {
        for (int ahead = 0; ahead <= 3; ahead++) {
            for (int own = 0; own <= 3; own++) {
                x = new Desk().kinds(ahead, own);
                boolean three = own == ALONE || own == SPREAD || ahead == ALONE || ahead == SPREAD;
                int why = three ? 3 : own == REVEAL ? 4 : NONE;
                judged("20", why == NONE ? NONE : 1, why);
            }
        }
    }

    @Says("4 it is not 2, and this PANEL is a SPREAD or a REVEAL, or the one ahead is a SPREAD")
    void promise10BeginningATierOfAllKinds() {
        for (int ahead = 0; ahead <= 3; ahead++) {
            for (int own = 0; own <= 3; own++) {
                x = new Desk().kinds(ahead, own);
                boolean four = own == SPREAD || own == REVEAL || ahead == SPREAD;
                judged("21", four ? 1 : NONE, four ? 4 : NONE);
                judged("22", NONE, NONE);
            }
        }
        // It is the one just ahead that counts.
        x = new Desk().kinds(SPREAD, PLAIN, PLAIN, ALONE, PLAIN, PLAIN);
        judged("220110", NONE, NONE);
    }

    @Says("5 with this PANEL HEIGHTS of the TIERS of its PAGE, added, would be above HIGH")
    void promise10HeightsUpToHigh() {
        for (int a = 1; a <= 6; a++) {
            for (int b = 1; b <= 6; b++) {
                for (int c = 1; c <= 6; c++) {
                    x = new Desk().talls(a, b, c);
                    heightsOfThree(a, b, c);
                }
            }
        }
    }

    private void heightsOfThree(int a, int b, int c) {
        x.pad("210");
        for (int high = 6; high <= 20; high++) {
            x.withHigh(high);
            int place = a + b > high ? 1 : a + Math.max(b, c) > high ? 2 : NONE;
            due("judge(0) of 210, high " + high, x.judge(0), place);
            due("judge(1) of 210, high " + high, x.judge(1), place == NONE ? NONE : 5);
        }
        x.pad("201");
        for (int high = 6; high <= 20; high++) {
            x.withHigh(high);
            due("judge(0) of 201, high " + high, x.judge(0), Math.max(a, b) + c > high ? 2 : NONE);
        }
        x.pad("211");
        for (int high = 6; high <= 20; high++) {
            x.withHigh(high);
            int place = a + b > high ? 1 : a + b + c > high ? 2 : NONE;
            due("judge(0) of 211, high " + high, x.judge(0), place);
        }
    }

    @Says("HEIGHTS of the TIERS of its PAGE, added, would be above HIGH")
    void promise10HeightsOfItsPageOnly() {
        x.talls(6, 6, 6, 2, 6, 6, 6, 3).withHigh(20);
        judged("21112111", 7, 5);
        x.change(7, 1, 2);
        judged("21112111", NONE, NONE);
        x.withHigh(19);
        judged("21112111", 3, 5);
        x.withHigh(6);
        judged("22220222", NONE, NONE);
    }

    @Says("(of a SPREAD this is no matter)")
    void promise10SpreadAlwaysCanBegin() {
        for (int high = 6; high <= 20; high++) {
            x = new Desk().put(1, 6, PLAIN).put(9, 6, SPREAD).put(1, 6, SPREAD).withHigh(high);
            judged("222", NONE, NONE);
        }
    }

    @Says("A figure can not be for the least of these reasons")
    void promise10LeastReason() {
        // 2 and 3; 2 and 4; 2, 3 and 4.
        for (int kind = 1; kind <= 3; kind++) {
            x = new Desk().kinds(PLAIN, PLAIN, PLAIN, PLAIN, kind);
            judged("20000", 4, 2);
        }
        // 2 and 5.
        x = new Desk().talls(3, 3, 3, 3, 3, 4).withHigh(6);
        judged("210000", 5, 2);
        // 3 and 4: a SPREAD, behind one, a REVEAL behind one that is ALONE.
        int[][] both = {{PLAIN, SPREAD}, {SPREAD, PLAIN}, {SPREAD, SPREAD}, {ALONE, REVEAL}};
        for (int[] kinds : both) {
            x = new Desk().kinds(kinds);
            judged("20", 1, 3);
        }
        // 3 and 5; 5 alone.
        x = new Desk().talls(3, 3).put(1, 4, ALONE).withHigh(6);
        judged("210", 2, 3);
        judged("211", 2, 5);
        x.change(2, 2, PLAIN);
        judged("210", 2, 5);
        // 4 and 5: a REVEAL that goes on, that begins a tier, a plain one behind a SPREAD.
        x = new Desk().talls(3, 3).put(1, 4, REVEAL).withHigh(6);
        judged("210", 2, 4);
        judged("211", 2, 4);
        x = new Desk().put(1, 6, SPREAD).put(1, 6, PLAIN).withHigh(6);
        judged("21", 1, 4);
    }

    @Says("the first place, from 0 on, of a figure that can not be")
    void promise10FirstPlace() {
        x.kinds(PLAIN, ALONE, PLAIN, REVEAL, PLAIN, SPREAD, PLAIN, ALONE, PLAIN);
        judged("000000000", 0, 1);
        judged("200000000", 1, 3);
        judged("210000000", 2, 3);
        judged("211000000", 3, 4);
        judged("211200000", 5, 3);
        judged("211201000", 5, 4);
        judged("211202000", 6, 3);
        judged("211202100", 6, 4);
        judged("211202200", 7, 3);
        judged("211202210", 8, 3);
        judged("211202211", NONE, NONE);
    }

    @Says("All that is told is as things are when it is asked")
    void promise10AsThingsAreNow() {
        x.talls(6, 4, 4).keep(0).pad("210");
        due("judge(0)", x.judge(0), NONE);
        x.high(9);
        due("judge(0), high 9", x.judge(0), 1);
        x.change(1, 1, 3);
        due("judge(0), panel 1 less tall", x.judge(0), 2);
        x.change(2, 1, 3);
        due("judge(0), panel 2, too", x.judge(0), NONE);
        x.change(2, 2, ALONE);
        due("judge(1), panel 2 alone", x.judge(1), 3);
        x.change(1, 2, SPREAD);
        due("judge(1), panel 1 a spread", x.judge(1), 4);
        x.restore(0);
        due("judge(0), restored", x.judge(0), NONE);
        x.pop();
        due("judge(0), one gone", x.judge(0), FAULT);
        x.put(1, 5, PLAIN);
        due("judge(1), another one", x.judge(1), 5);
    }

    // ---- promise 11

    @Says("how many PAGES (what = 0), RAGGED (1), how many TIERS (2), how many BLANK PAGES (3)")
    void promise11WhatIsZeroToThree() {
        refused(OUTSIDE, "told(what)", LayoutBoundsTest::goes, beside(0, 3), (d, v) -> d.told(v));
        asks(1, "told(0)", LayoutBoundsTest::goes, (d, v) -> d.told(0));
        asks(1 + 2, "told(1)", LayoutBoundsTest::goes, (d, v) -> d.told(1));
        asks(2, "told(2)", LayoutBoundsTest::goes, (d, v) -> d.told(2));
        asks(0, "told(3)", LayoutBoundsTest::goes, (d, v) -> d.told(3));
    }

    @Says({"OUTSIDE; FAULT: as with judge(); NO: it does not GO.", "answer the first that fits"})
    void promise11OutsideThenFaultThenNo() {
        refused(OUTSIDE, "told(what), no layout", LayoutBoundsTest::isNoLayout, beside(0, 3), (d, v) -> d.told(v));
        refused(OUTSIDE, "told(what), does not go", LayoutBoundsTest::doesNotGo, beside(0, 3), (d, v) -> d.told(v));
        refused(FAULT, "told(what), no layout", LayoutBoundsTest::isNoLayout, from(0, 3), (d, v) -> d.told(v));
        refused(NO, "told(what), does not go", LayoutBoundsTest::doesNotGo, from(0, 3), (d, v) -> d.told(v));
        refused(FAULT, "told(what), first figure 0, another sign", d -> d.talls(1, 1).pad("03"), from(0, 3), (d, v) -> d.told(v));
        refused(FAULT, "told(what), first figure 0, too many", d -> d.talls(1, 1).pad("022"), from(0, 3), (d, v) -> d.told(v));
    }

    @Says("FAULT: as with judge()")
    void promise11FaultAsWithJudge() {
        for (char sign : ALL_OTHER_SIGNS.toCharArray()) {
            x = new Desk().talls(1, 1).pad("2" + sign);
            due("told(0) of 2" + sign, x.told(0), FAULT);
        }
        for (int panels = 0; panels <= 9; panels++) {
            x = new Desk().alike(panels, 1, 0);
            for (int signs = 0; signs <= 9; signs++) {
                x.pad("222222222".substring(0, signs));
                due("told(0), " + panels + " panels, " + signs + " signs", x.told(0), signs == panels ? panels : FAULT);
            }
        }
    }

    @Says("NO: it does not GO.")
    void promise11EachReasonIsNo() {
        refused(NO, "told, reason 1", d -> d.talls(1, 1).pad("12"), from(0, 3), (d, v) -> d.told(v));
        refused(NO, "told, reason 2", d -> d.talls(1, 1, 1, 1, 1).pad("20000"), from(0, 3), (d, v) -> d.told(v));
        refused(NO, "told, reason 3", d -> d.kinds(PLAIN, ALONE).pad("20"), from(0, 3), (d, v) -> d.told(v));
        refused(NO, "told, reason 4", d -> d.kinds(PLAIN, REVEAL).pad("21"), from(0, 3), (d, v) -> d.told(v));
        refused(NO, "told, reason 5", d -> d.talls(6, 5).pad("21"), from(0, 3), (d, v) -> d.told(v));
        // The last figure of nine.
        refused(NO, "told, the ninth", d -> d.alike(9, 1, PLAIN).pad("200020000"), from(0, 3), (d, v) -> d.told(v));
    }

    @Says("How many PAGES a LAYOUT has: all, BLANK ones, too (0 without PANELS)")
    void promise11NoPanels() {
        tolds("", 0, 0, 0, 0);
        x.talls(1);
        x.pop();
        tolds("", 0, 0, 0, 0);
    }

    @Says({"those of odd numbers are LEFT ones", "if the next one is not a LEFT one, is on the one behind that, and the one between is BLANK"})
    void promise11BlankPageAheadOfAnEvenOne() {
        for (int kind : new int[] {SPREAD, REVEAL}) {
            for (int ahead = 0; ahead <= 8; ahead++) {
                x = new Desk().alike(ahead, 6, PLAIN);
                x.put(1, 6, kind).withHigh(6);
                int blanks = ahead % 2 == 0 ? 1 : 0;
                String layout = "222222222".substring(0, ahead + 1);
                tolds(layout, ahead + blanks + (kind == SPREAD ? 2 : 1), 36 * blanks, ahead + 1, blanks);
            }
        }
    }

    @Says("A PANEL that begins a PAGE is on the next one")
    void promise11NoBlankPageAheadOfPlainOnes() {
        for (int kind : new int[] {PLAIN, ALONE}) {
            x = new Desk().put(1, 6, kind).put(1, 6, kind).put(1, 6, kind).withHigh(6);
            tolds("222", 3, 0, 3, 0);
        }
    }

    @Says("A SPREAD takes its PAGE and the one behind that, whole")
    void promise11PagesBehindASpread() {
        // Blank 0, the spread 1 and 2, so 3 is a left one, 4 is not.
        for (int kind : new int[] {SPREAD, REVEAL}) {
            x = new Desk().kinds(SPREAD, kind);
            int rest = kind == SPREAD ? 0 : 81;
            tolds("22", kind == SPREAD ? 5 : 4, 100 + rest, 2, 1);
            x = new Desk().kinds(SPREAD, PLAIN, kind);
            tolds("222", kind == SPREAD ? 7 : 6, 100 + 81 + 100 + rest, 3, 2);
        }
        x = new Desk().kinds(REVEAL, SPREAD);
        tolds("22", 5, 100 + 81 + 100, 2, 2);
        x = new Desk().kinds(PLAIN, SPREAD, PLAIN);
        tolds("222", 4, 81 + 81, 3, 0);
    }

    @Says({"for each PAGE that no SPREAD takes HIGH less HEIGHTS of its TIERS, multiplied by itself", "(of a SPREAD's TIER 0)"})
    void promise11RaggedOfASpreadIsNothing() {
        for (int tall = 1; tall <= 6; tall++) {
            for (int high = 6; high <= 20; high += 7) {
                x = new Desk().put(1, 6, PLAIN).put(9, tall, SPREAD).withHigh(high);
                tolds("22", 3, (high - 6) * (high - 6), 2, 0);
            }
        }
    }

    @Says({"(of a BLANK one HIGH times HIGH)", "and GAPS of all TIERS"})
    void promise11RaggedAtItsBounds() {
        x.talls(6).withHigh(6);
        tolds("2", 1, 0, 1, 0);
        x = new Desk().talls(6, 1, 1, 1).withHigh(6);
        tolds("2000", 1, 15, 1, 0);
        x.withHigh(20);
        tolds("2000", 1, 14 * 14 + 15, 1, 0);
        // Two tiers of one page, each with gaps; and the page is full.
        x = new Desk().talls(6, 1, 1, 1, 1, 1, 1, 6).withHigh(12);
        tolds("20001000", 1, 15 + 15, 2, 0);
        tolds("20002000", 2, 36 + 15 + 36 + 15, 2, 0);
        x = new Desk().alike(9, 1, REVEAL).withHigh(20);
        tolds("222222222", 18, 9 * 400 + 9 * 361, 9, 9);
        x = new Desk().alike(9, 1, SPREAD).withHigh(20);
        tolds("222222222", 19, 400, 9, 1);
        x = new Desk().alike(9, 1, PLAIN).withHigh(20);
        tolds("222222222", 9, 9 * 361, 9, 0);
        tolds("211111111", 1, 11 * 11, 9, 0);
        tolds("200010001", 1, 17 * 17, 3, 0);
    }

    @Says("All that is told is as things are when it is asked")
    void promise11AsThingsAreNow() {
        x.talls(6, 1).keep(1).pad("22");
        due("told(0)", x.told(0), 2);
        due("told(1)", x.told(1), 16 + 81);
        x.high(6);
        due("told(1), high 6", x.told(1), 25);
        x.change(1, 1, 6);
        due("told(1), taller", x.told(1), 0);
        x.change(0, 2, REVEAL);
        due("told(0), a reveal", x.told(0), 3);
        due("told(1), a reveal", x.told(1), 36);
        due("told(3), a reveal", x.told(3), 1);
        x.change(0, 2, SPREAD);
        due("told(0), a spread", x.told(0), 4);
        x.restore(1);
        due("told(0), restored", x.told(0), 2);
        due("told(3), restored", x.told(3), 0);
        x.pop();
        due("told(0), one gone", x.told(0), FAULT);
        x.pad("2");
        due("told(0)", x.told(0), 1);
    }

    // ---- promise 12

    @Says("its PAGE (what = 0; of a SPREAD the lesser one), its TIER in that PAGE, from 0 on (1), its place in that TIER, from 0 on (2), its WIDTH (3; of a SPREAD 24)")
    void promise12WhatIsZeroToThree() {
        refused(OUTSIDE, "at(0, what)", LayoutBoundsTest::goes, beside(0, 3), (d, v) -> d.at(0, v));
        refused(OUTSIDE, "at(2, what)", LayoutBoundsTest::goes, beside(0, 3), (d, v) -> d.at(2, v));
        int[] due = {0, 0, 1, 6};
        for (int what = 0; what <= 3; what++) {
            int asked = what;
            asks(due[what], "at(1, " + what + ")", LayoutBoundsTest::goes, (d, v) -> d.at(1, asked));
        }
    }

    @Says({"UNKNOWN; OUTSIDE; FAULT: as with judge(); NO: it does not GO.", "answer the first that fits"})
    void promise12UnknownThenOutsideThenFaultThenNo() {
        refused(UNKNOWN, "at(panel, 0)", LayoutBoundsTest::goes, beside(0, 2), (d, v) -> d.at(v, 0));
        refused(UNKNOWN, "at(panel, 4)", LayoutBoundsTest::goes, beside(0, 2), (d, v) -> d.at(v, 4));
        refused(UNKNOWN, "at(panel, 0), no layout", LayoutBoundsTest::isNoLayout, beside(0, 2), (d, v) -> d.at(v, 0));
        refused(UNKNOWN, "at(panel, -1), no layout", LayoutBoundsTest::isNoLayout, beside(0, 2), (d, v) -> d.at(v, -1));
        refused(UNKNOWN, "at(panel, 0), does not go", LayoutBoundsTest::doesNotGo, beside(0, 2), (d, v) -> d.at(v, 0));
        refused(UNKNOWN, "at(panel, -1), does not go", LayoutBoundsTest::doesNotGo, beside(0, 2), (d, v) -> d.at(v, -1));
        refused(OUTSIDE, "at(0, what), no layout", LayoutBoundsTest::isNoLayout, beside(0, 3), (d, v) -> d.at(0, v));
        refused(OUTSIDE, "at(0, what), does not go", LayoutBoundsTest::doesNotGo, beside(0, 3), (d, v) -> d.at(0, v));
        refused(FAULT, "at(0, what), no layout", LayoutBoundsTest::isNoLayout, from(0, 3), (d, v) -> d.at(0, v));
        refused(NO, "at(2, what), does not go", LayoutBoundsTest::doesNotGo, from(0, 3), (d, v) -> d.at(2, v));
        refused(FAULT, "at(0, what), first figure 0, another sign", d -> d.talls(1, 1).pad("03"), from(0, 3), (d, v) -> d.at(0, v));
    }

    @Says("FAULT: as with judge()")
    void promise12FaultAsWithJudge() {
        for (char sign : ALL_OTHER_SIGNS.toCharArray()) {
            x = new Desk().talls(1, 1).pad("2" + sign);
            due("at(0, 0) of 2" + sign, x.at(0, 0), FAULT);
        }
        for (int panels = 0; panels <= 9; panels++) {
            x = new Desk().alike(panels, 1, 0);
            for (int signs = 0; signs <= 9; signs++) {
                x.pad("222222222".substring(0, signs));
                int want = panels == 0 ? UNKNOWN : signs == panels ? 0 : FAULT;
                due("at(0, 0), " + panels + " panels, " + signs + " signs", x.at(0, 0), want);
            }
        }
    }

    @Says("NO: it does not GO.")
    void promise12OneBadFigureIsNoForAllPanels() {
        refused(NO, "at(panel, 0), the ninth figure", d -> d.alike(9, 1, PLAIN).pad("200020000"), from(0, 8), (d, v) -> d.at(v, 0));
        refused(NO, "at(panel, 3), the first figure", d -> d.alike(9, 1, PLAIN).pad("022222222"), from(0, 8), (d, v) -> d.at(v, 3));
    }

    @Says("its place in that TIER, from 0 on (2)")
    void promise12PlacesAreZeroToThreeAndTiersZeroToEight() {
        x.alike(9, 1, PLAIN);
        x.pad("200010002");
        for (int p = 0; p < 8; p++) {
            ats(p, 0, p / 4, p % 4, 3);
        }
        ats(8, 1, 0, 0, 12);
        x.pad("211111111");
        for (int p = 0; p < 9; p++) {
            ats(p, 0, p, 0, 12);
        }
        x.pad("222222222");
        for (int p = 0; p < 9; p++) {
            ats(p, p, 0, 0, 12);
        }
    }

    @Says({"its PAGE (what = 0; of a SPREAD the lesser one)", "its WIDTH (3; of a SPREAD 24)"})
    void promise12SpreadsAndReveals() {
        x.alike(9, 1, SPREAD).pad("222222222");
        for (int p = 0; p < 9; p++) {
            ats(p, 2 * p + 1, 0, 0, 24);
        }
        x = new Desk().alike(9, 1, REVEAL).pad("222222222");
        for (int p = 0; p < 9; p++) {
            ats(p, 2 * p + 1, 0, 0, 12);
        }
        // The weight of a spread is no matter; behind it the next page is the one behind its two.
        x = new Desk().put(1, 1, PLAIN).put(9, 1, SPREAD).put(1, 1, PLAIN).put(1, 1, REVEAL).put(1, 1, PLAIN).pad("22220");
        ats(0, 0, 0, 0, 12);
        ats(1, 1, 0, 0, 24);
        ats(2, 3, 0, 0, 12);
        ats(3, 5, 0, 0, 6);
        ats(4, 5, 0, 1, 6);
    }

    @Says("its WIDTH")
    void promise12WidthsOfItsOwnTierOnly() {
        x.put(1, 1, 0).put(9, 1, 0).put(9, 1, 0).put(9, 1, 0).put(5, 1, 0).put(7, 1, 0).put(9, 1, 0);
        x.pad("2000102");
        ats(0, 0, 0, 0, 0);
        ats(1, 0, 0, 1, 4);
        ats(3, 0, 0, 3, 4);
        ats(4, 0, 1, 0, 5);
        ats(5, 0, 1, 1, 7);
        ats(6, 1, 0, 0, 12);
        x.pad("2120002");
        ats(0, 0, 0, 0, 12);
        ats(1, 0, 1, 0, 12);
        // 108, 108, 60, 84 by 30: 3, 3, 2, 2, and 18, 18, 0, 24 cut off.
        ats(2, 1, 0, 0, 4);
        ats(3, 1, 0, 1, 3);
        ats(4, 1, 0, 2, 2);
        ats(5, 1, 0, 3, 3);
        ats(6, 2, 0, 0, 12);
    }

    @Says("All that is told is as things are when it is asked")
    void promise12AsThingsAreNow() {
        x.talls(1, 1, 1).keep(0).pad("202");
        ats(1, 0, 0, 1, 6);
        ats(2, 1, 0, 0, 12);
        x.change(1, 0, 5);
        ats(1, 0, 0, 1, 10);
        x.change(0, 2, REVEAL);
        ats(1, 1, 0, 1, 10);
        ats(2, 2, 0, 0, 12);
        x.change(2, 2, SPREAD);
        ats(2, 3, 0, 0, 24);
        x.change(1, 2, ALONE);
        due("at(2, 0), does not go", x.at(2, 0), NO);
        x.restore(0);
        ats(1, 0, 0, 1, 6);
        x.pop();
        due("at(2, 0), gone", x.at(2, 0), UNKNOWN);
        due("at(1, 0), one figure too many", x.at(1, 0), FAULT);
        x.pad("20");
        ats(1, 0, 0, 1, 6);
    }

    // ---- promise 13

    @Says("OUTSIDE: what.")
    void promise13WhatIsZeroToThreeOrTenToEighteen() {
        refused(OUTSIDE, "best(what), no panels", d -> { }, beside(0, 18), (d, v) -> d.best(v));
        refused(OUTSIDE, "best(what), no panels", d -> { }, from(4, 9), (d, v) -> d.best(v));
        refused(OUTSIDE, "best(what)", LayoutBoundsTest::goes, beside(0, 18), (d, v) -> d.best(v));
        refused(OUTSIDE, "best(what)", LayoutBoundsTest::goes, from(4, 9), (d, v) -> d.best(v));
        refused(OUTSIDE, "best(what), full", LayoutBoundsTest::fullPad, beside(0, 18), (d, v) -> d.best(v));
    }

    @Says("(10 and i, added; NONE: there is no such PANEL, i 0 to 8)")
    void promise13FigureOfEachPanelThatThereIs() {
        for (int panels = 0; panels <= 9; panels++) {
            x = new Desk().alike(panels, 6, ALONE);
            x.withHigh(6);
            for (int i = 0; i <= 8; i++) {
                due("best(" + (10 + i) + ") of " + panels, x.best(10 + i), i < panels ? 2 : NONE);
            }
            due("best(19) of " + panels, x.best(19), OUTSIDE);
        }
        asks(NONE, "best(13)", LayoutBoundsTest::goes, (d, v) -> d.best(13));
        asks(1, "best(12)", LayoutBoundsTest::goes, (d, v) -> d.best(12));
    }

    @Says("(0 without PANELS)")
    void promise13NoPanels() {
        bests(0, 0, 1, 1, "");
        x.talls(1);
        bests(1, 81, 1, 1, "2");
        x.pop();
        bests(0, 0, 1, 1, "");
    }

    @Says("NONE (0, 1, 3): none GOES")
    void promise13OneAlwaysGoes() {
        // TALL is 6 at most and HIGH 6 at least, so that figure 2 can be everywhere.
        for (int kinds = 0; kinds < 64; kinds++) {
            x = new Desk().put(1, 6, kinds % 4).put(1, 6, kinds / 4 % 4).put(1, 6, kinds / 16).withHigh(6);
            holds("best(0) of kinds " + kinds, x.best(0) >= 1);
            holds("best(1) of kinds " + kinds, x.best(1) >= 0);
            holds("best(2) of kinds " + kinds, x.best(2) >= 1);
            holds("best(3) of kinds " + kinds, x.best(3) >= 1);
        }
        x = new Desk().alike(9, 6, ALONE);
        x.withHigh(6);
        bests(9, 0, 1, 1, "222222222");
    }

    @Says("of all that GO those of the fewest PAGES; of such those of the least RAGGED")
    void promise13FewestPagesGoBeforeLeastRagged() {
        // On one page: 15 gaps; on two, one above the other three below: 3 * 3.
        x.talls(6, 1, 1, 1).withHigh(6);
        bests(1, 15, 14, 1, "2000");
        x.pad("2211");
        due("told(1), evener on more pages", x.told(1), 9);
    }

    @Says("of such those of the least RAGGED; of such the first")
    void promise13LeastRaggedGoesBeforeTheFirst() {
        // "20" is the first, "21" the evener one.
        x.talls(1, 1);
        bests(1, 64, 3, 2, "21");
    }

    @Says("that one is the first that has the lesser figure at the first place at which they differ")
    void promise13TheFirstOfAlikeOnes() {
        // "201" and "210" are alike; so are "2011", "2101", "2110".
        x.talls(3, 3, 3).withHigh(6);
        bests(1, 0, 8, 3, "201");
        x.put(1, 3, 0).withHigh(9);
        bests(1, 0, 26, 7, "2011");
        // "20002", "20020", "20200", "22000": the lesser figure at the first place, not at the last.
        x = new Desk().talls(6, 6, 6, 6, 6).withHigh(6);
        bests(2, 0, 15, 4, "20002");
    }

    @Says("how many LAYOUTS GO (2), how many of these have as few PAGES (3)")
    void promise13MostLayouts() {
        x.alike(9, 1, PLAIN).withHigh(20);
        // With n panels twice as many as with those ahead of the last tier, of 1 to 4: half of g(9).
        bests(1, 121, 6264, 208, "211111111");
        x = new Desk().alike(9, 1, SPREAD).withHigh(20);
        bests(19, 400, 1, 1, "222222222");
        x = new Desk().alike(9, 1, REVEAL).withHigh(20);
        bests(18, 9 * 400 + 9 * 361, 1, 1, "222222222");
    }

    @Says({"all, BLANK ones, too", "BEST: of all that GO those of the fewest PAGES"})
    void promise13BlankPagesCount() {
        // Blank 0, then 1; the last one is on 3, be 2 a page of plain ones or blank; with 2 and 3 taken it is on 5.
        x.kinds(REVEAL, PLAIN, PLAIN, REVEAL);
        bests(4, 100 + 64 + 81 + 81, 9, 8, "2122");
        // Behind a spread an even page is next: a page and a blank one, or two pages, are as many.
        x = new Desk().kinds(SPREAD, PLAIN, PLAIN, SPREAD);
        bests(7, 100 + 81 + 81, 3, 3, "2222");
    }

    @Says("All that is told is as things are when it is asked")
    void promise13AsThingsAreNow() {
        x.talls(6, 6).keep(0);
        bests(1, 16, 2, 1, "20");
        x.withHigh(12);
        bests(1, 0, 3, 2, "21");
        x.change(1, 2, REVEAL);
        bests(2, 36 + 36, 1, 1, "22");
        x.change(1, 2, ALONE);
        bests(1, 0, 2, 1, "21");
        x.put(1, 6, SPREAD);
        bests(3, 0, 2, 1, "212");
        x.pop();
        bests(1, 0, 2, 1, "21");
        x.restore(0);
        bests(1, 16, 2, 1, "20");
        x.change(0, 1, 4);
        bests(1, 0, 3, 2, "21");
        x.pop();
        bests(1, 36, 1, 1, "2");
    }

    // ---- promise 14

    @Says("THE PAD is BEST (what was there goes): how many signs")
    void promise14NoPanels() {
        due("lay(), no panels", x.lay(), 0);
        x.pad("!!!!!!!!!");
        due("lay(), no panels, a full pad", x.lay(), 0);
        due("count(2)", x.count(2), 0);
        due("judge(0)", x.judge(0), NONE);
    }

    @Says("THE PAD is BEST (what was there goes): how many signs")
    void promise14OneToNineSigns() {
        for (int panels = 1; panels <= 9; panels++) {
            for (String there : new String[] {"", "0", "!!!!!!!!!"}) {
                x = new Desk().pad(there);
                for (int i = 0; i < panels; i++) {
                    x.put(1, i % 6 + 1, i % 4);
                }
                due("lay() with " + panels, x.lay(), panels);
                due("count(2)", x.count(2), panels);
                padIsBest(panels);
                due("say(33)", x.say(33), panels == 9 ? FULL : panels + 1);
            }
        }
    }

    private void padIsBest(int panels) {
        due("judge(0)", x.judge(0), NONE);
        due("told(0)", x.told(0), x.best(0));
        due("told(1)", x.told(1), x.best(1));
        for (int p = 0; p < panels; p++) {
            int figure = x.at(p, 2) > 0 ? 0 : x.at(p, 1) > 0 ? 1 : 2;
            due("figure " + p, figure, x.best(10 + p));
        }
    }

    @Says("NO: no LAYOUT GOES.")
    void promise14OneAlwaysGoes() {
        for (int kind = 0; kind <= 3; kind++) {
            x = new Desk().withHigh(6);
            for (int i = 0; i < 9; i++) {
                x.put(9, 6, kind);
            }
            due("lay() of kind " + kind, x.lay(), 9);
            padIsBest(9);
        }
    }

    @Says("THE PAD is BEST")
    void promise14OnlyThePadChanges() {
        doesNotGo(x);
        String before = new Desk().talls(4, 2, 5).keep(0).balloons(1, "30").pad("201").everything();
        due("best(10)", x.best(10), 2);
        due("best(11)", x.best(11), 0);
        due("best(12)", x.best(12), 1);
        due("lay()", x.lay(), 3);
        same("all but the pad", x.everything(), before);
    }

    @Says("All that is told is as things are when it is asked")
    void promise14AsThingsAreNow() {
        x.talls(6, 6).keep(1);
        due("lay()", x.lay(), 2);
        padIsBest(2);
        x.withHigh(12);
        due("judge(0), what was BEST goes yet", x.judge(0), NONE);
        due("told(1), what was BEST", x.told(1), 36);
        due("lay()", x.lay(), 2);
        due("told(1), what is BEST", x.told(1), 0);
        x.restore(1);
        due("judge(1), what was BEST", x.judge(1), 5);
        due("lay()", x.lay(), 2);
        padIsBest(2);
        x.pop();
        due("lay()", x.lay(), 1);
        padIsBest(1);
    }

    public static void main(String[] args) throws IOException {
        new LayoutBoundsTest().runAll(args, 8, 14);
    }
}
