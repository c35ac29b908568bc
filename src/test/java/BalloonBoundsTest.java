import java.io.IOException;
import java.util.function.Consumer;

/** Boundary cases of promises 15 to 18. */
public final class BalloonBoundsTest extends Sentences {
    /** Panels with 2, 0 and 4 balloons, kept in an image, too. */
    private static void some(Desk d) {
        d.talls(1, 2, 3).balloons(0, "30").balloons(2, "0123").keep(1);
    }

    private static Consumer<Desk> withPad(String signs) {
        return d -> {
            some(d);
            d.pad(signs);
        };
    }

    private void speakers(int panel, String speakers) {
        due("of(" + panel + ", 3)", x.of(panel, 3), speakers.length());
        for (int i = 0; i < speakers.length(); i++) {
            due("speaker(" + panel + ", " + i + ")", x.speaker(panel, i), speakers.charAt(i) - '0');
        }
        due("speaker(" + panel + "), behind the last", x.speaker(panel, speakers.length()), NONE);
    }

    private void goods(String speakers, int good, int deep, int few, int... first) {
        x.balloons(0, speakers);
        due("good(0, 0) of " + speakers, x.good(0, 0), good);
        due("good(0, 1) of " + speakers, x.good(0, 1), deep);
        due("good(0, 2) of " + speakers, x.good(0, 2), few);
        for (int i = 0; i < 4; i++) {
            due("good(0, " + (10 + i) + ") of " + speakers, x.good(0, 10 + i), i < first.length ? first[i] : NONE);
        }
    }

    private void isGood(String speakers, String setting, int want) {
        x = new Desk().talls(1).balloons(0, speakers).pad(setting);
        due("isGood(0) of " + setting + " for " + speakers, x.isGood(0), want);
    }

    // ---- promise 15

    @Says({"A PANEL has up to 4 BALLOONS", "or more than 4"})
    void promise15ZeroToFourBalloons() {
        x.talls(1, 1);
        for (int many = 0; many <= 4; many++) {
            x.pad("3012".substring(0, many));
            due("talk(0) of " + many, x.talk(0), many);
            speakers(0, "3012".substring(0, many));
            due("count(2)", x.count(2), 0);
        }
        for (int many = 5; many <= 9; many++) {
            refusedOnce(FAULT, "talk(0) of " + many, withPad("000000000".substring(0, many)), (d, v) -> d.talk(0));
        }
    }

    @Says({"who stands at a COLUMN, 0 to 3", "a figure 0 to 3 for each, the COLUMN of its SPEAKER", "FAULT: it has other signs"})
    void promise15FiguresAreZeroToThree() {
        for (int sign = 33; sign <= 126; sign++) {
            boolean figure = sign >= '0' && sign <= '3';
            x = new Desk().talls(1);
            x.say(sign);
            due("talk(0) of sign " + sign, x.talk(0), figure ? 1 : FAULT);
            due("speaker(0, 0)", x.speaker(0, 0), figure ? sign - '0' : NONE);
            due("count(2)", x.count(2), figure ? 0 : 1);
        }
        for (int place = 0; place < 4; place++) {
            for (char sign : new char[] {'/', '4'}) {
                String signs = "0000".substring(0, place) + sign + "0000".substring(place + 1);
                refusedOnce(FAULT, "talk(2) of " + signs, withPad(signs), (d, v) -> d.talk(2));
            }
        }
    }

    @Says("no signs: none: how many")
    void promise15NoSigns() {
        some(x);
        due("talk(2), no signs", x.talk(2), 0);
        speakers(2, "");
        due("talk(1), none before", x.talk(1), 0);
        speakers(0, "30");
        due("count(3)", x.count(3), 2);
    }

    @Says({"UNKNOWN; FAULT", "answer the first that fits"})
    void promise15UnknownGoesBeforeFault() {
        refused(UNKNOWN, "talk(panel)", withPad("01"), beside(0, 2), (d, v) -> d.talk(v));
        refused(UNKNOWN, "talk(panel), empty pad", withPad(""), beside(0, 2), (d, v) -> d.talk(v));
        refused(UNKNOWN, "talk(panel), another sign", withPad("04"), beside(0, 2), (d, v) -> d.talk(v));
        refused(UNKNOWN, "talk(panel), too many", withPad("00000"), beside(0, 2), (d, v) -> d.talk(v));
        refused(FAULT, "talk(panel), another sign", withPad("04"), from(0, 2), (d, v) -> d.talk(v));
        refused(UNKNOWN, "talk(panel), no panels", d -> d.pad("0"), from(-1, 9), (d, v) -> d.talk(v));
    }

    @Says("BALLOONS of a PANEL are those that THE PAD tells, which is empty then")
    void promise15InPlaceOfThoseThatWere() {
        some(x);
        x.pad("1");
        due("talk(2)", x.talk(2), 1);
        due("count(2)", x.count(2), 0);
        speakers(2, "1");
        speakers(1, "");
        speakers(0, "30");
        x.pad("2222");
        due("talk(1)", x.talk(1), 4);
        speakers(0, "30");
        speakers(1, "2222");
        speakers(2, "1");
        due("count(3)", x.count(3), 7);
        x.restore(1);
        speakers(2, "0123");
        speakers(1, "");
    }

    @Says("BALLOONS of a PANEL are those that THE PAD tells")
    void promise15LastOfNinePanels() {
        x.talls(1, 1, 1, 1, 1, 1, 1, 1, 1);
        x.balloons(8, "3333").balloons(0, "0000");
        speakers(8, "3333");
        speakers(7, "");
        speakers(0, "0000");
        speakers(1, "");
    }

    // ---- promise 16

    @Says("BALLOON i of a PANEL, from 0 on; NONE: there is none such (i below 0, too)")
    void promise16NoneSuch() {
        int[] many = {2, 0, 4};
        for (int panel = 0; panel <= 2; panel++) {
            int asked = panel;
            refused(NONE, "speaker(" + panel + ", i)", BalloonBoundsTest::some, beside(0, many[panel] - 1), (d, v) -> d.speaker(asked, v));
        }
        some(x);
        speakers(0, "30");
        speakers(1, "");
        speakers(2, "0123");
        x.balloons(2, "11");
        due("speaker(2, 2), there was one", x.speaker(2, 2), NONE);
        due("speaker(2, 3), there was one", x.speaker(2, 3), NONE);
    }

    @Says({"UNKNOWN.", "NONE -6 is answered only where no refusal fits"})
    void promise16UnknownGoesBeforeNone() {
        refused(UNKNOWN, "speaker(panel, 0)", BalloonBoundsTest::some, beside(0, 2), (d, v) -> d.speaker(v, 0));
        refused(UNKNOWN, "speaker(panel, -1)", BalloonBoundsTest::some, beside(0, 2), (d, v) -> d.speaker(v, -1));
        refused(UNKNOWN, "speaker(panel, 4)", BalloonBoundsTest::some, beside(0, 2), (d, v) -> d.speaker(v, 4));
        refused(UNKNOWN, "speaker(3, i)", BalloonBoundsTest::some, beside(0, 3), (d, v) -> d.speaker(3, v));
        some(x);
        x.pop();
        due("speaker(2, 0), gone", x.speaker(2, 0), UNKNOWN);
        due("speaker(1, 0), the last", x.speaker(1, 0), NONE);
    }

    // ---- promise 17

    @Says({"(10 and i, added, i 0 to 3)", "OUTSIDE: what."})
    void promise17WhatIsZeroToTwoOrTenToThirteen() {
        for (int panel = 0; panel <= 2; panel++) {
            int asked = panel;
            refused(OUTSIDE, "good(" + panel + ", what)", BalloonBoundsTest::some, beside(0, 13), (d, v) -> d.good(asked, v));
            refused(OUTSIDE, "good(" + panel + ", what)", BalloonBoundsTest::some, from(3, 9), (d, v) -> d.good(asked, v));
        }
        int[] due = {46, 1, 1};
        for (int what = 0; what <= 2; what++) {
            int asked = what;
            asks(due[what], "good(2, " + what + ")", BalloonBoundsTest::some, (d, v) -> d.good(2, asked));
        }
        for (int i = 0; i <= 3; i++) {
            int asked = 10 + i;
            asks(i, "good(2, " + asked + ")", BalloonBoundsTest::some, (d, v) -> d.good(2, asked));
        }
    }

    @Says({"UNKNOWN; OUTSIDE: what.", "answer the first that fits"})
    void promise17UnknownGoesBeforeOutside() {
        refused(UNKNOWN, "good(panel, 0)", BalloonBoundsTest::some, beside(0, 2), (d, v) -> d.good(v, 0));
        refused(UNKNOWN, "good(panel, 13)", BalloonBoundsTest::some, beside(0, 2), (d, v) -> d.good(v, 13));
        refused(UNKNOWN, "good(panel, 3)", BalloonBoundsTest::some, beside(0, 2), (d, v) -> d.good(v, 3));
        refused(UNKNOWN, "good(3, what)", BalloonBoundsTest::some, beside(0, 13), (d, v) -> d.good(3, v));
    }

    @Says({"NONE (1 on): none is GOOD", "NONE -6 is answered only where no refusal fits"})
    void promise17NoneIsGood() {
        // Each further one stands further left, so it needs a row of its own, and there are three.
        x.talls(1);
        goods("3210", 0, NONE, NONE);
        refused(OUTSIDE, "good(0, what), none good", d -> d.talls(1).balloons(0, "3210"), beside(0, 13), (d, v) -> d.good(0, v));
        refused(OUTSIDE, "good(0, what), none good", d -> d.talls(1).balloons(0, "3210"), from(3, 9), (d, v) -> d.good(0, v));
        goods("321", 2 * 2 * 2, 3, 8, 2, 5, 8);
    }

    @Says({"or there is no such BALLOON", "(0 without BALLOONS)"})
    void promise17NoSuchBalloon() {
        x.talls(1);
        goods("", 1, 0, 1);
        goods("0", 6, 1, 2, 0);
        goods("", 1, 0, 1);
    }

    @Says("each BALLOON's COLUMN is no more than 1 off its SPEAKER's")
    void promise17OneBalloonAtEachColumn() {
        x.talls(1);
        goods("0", 3 * 2, 1, 2, 0);
        goods("1", 3 * 3, 1, 3, 0);
        goods("2", 3 * 3, 1, 3, 1);
        goods("3", 3 * 2, 1, 2, 2);
    }

    @Says({"DEEP of a SETTING: the greatest ROW, and 1", "the least DEEP of any (1), how many have that (2)"})
    void promise17DeepIsOneToThree() {
        x.talls(1);
        // All in one row; in two; in three, just one way: two columns, and below not the speaker's own.
        goods("0123", 46, 1, 1, 0, 1, 2, 3);
        goods("30", 12, 2, 4, 2, 4);
        goods("0000", 1, 3, 1, 0, 1, 5, 9);
        goods("3333", 1, 3, 1, 2, 3, 6, 10);
    }

    @Says("the lesser 4 times ROW and COLUMN")
    void promise17FirstOfThoseOfTheLeastDeep() {
        x.talls(1);
        // One row: 0 and 2 is the first of 0 2, 0 3, 1 2, 1 3; what is deeper may come ahead of it.
        goods("03", 24, 1, 4, 0, 2);
        goods("11", 3 * 3 + 3 * 3 * 2, 1, 3, 0, 1);
    }

    /** All speakers of up to 4 balloons, with all settings looked at one by one. */
    @Says("SETTINGS of a PANEL that are GOOD: how many (what = 0)")
    void promise17AllSpeakers() {
        for (int many = 0; many <= 4; many++) {
            for (int s = 0; s < 1 << 2 * many; s++) {
                int[] speakers = new int[many];
                StringBuilder signs = new StringBuilder();
                for (int i = 0; i < many; i++) {
                    speakers[i] = s >> 2 * i & 3;
                    signs.append(speakers[i]);
                }
                x = new Desk().talls(1);
                allSettings(speakers, signs.toString());
            }
        }
    }

    private void allSettings(int[] speakers, String signs) {
        int good = 0;
        int[] ofDeep = new int[4];
        int[][] firstOfDeep = new int[4][];
        int settings = (int) Math.round(Math.pow(12, speakers.length));
        for (int s = 0; s < settings; s++) {
            int[] cells = new int[speakers.length];
            int deep = 0;
            for (int i = speakers.length - 1, rest = s; i >= 0; i--, rest /= 12) {
                cells[i] = rest % 12;
                deep = Math.max(deep, cells[i] / 4 + 1);
            }
            if (isRead(speakers, cells)) {
                good++;
                ofDeep[deep]++;
                firstOfDeep[deep] = firstOfDeep[deep] == null ? cells : firstOfDeep[deep];
            }
        }
        int least = 0;
        while (least < 3 && ofDeep[least] == 0) {
            least++;
        }
        if (good == 0) {
            goods(signs, 0, NONE, NONE);
        } else {
            goods(signs, good, least, ofDeep[least], firstOfDeep[least]);
        }
    }

    private static boolean isRead(int[] speakers, int[] cells) {
        for (int i = 0; i < cells.length; i++) {
            int row = cells[i] / 4;
            int column = cells[i] % 4;
            if (Math.abs(column - speakers[i]) > 1) {
                return false;
            }
            if (i > 0 && row <= cells[i - 1] / 4 && (row < cells[i - 1] / 4 || column <= cells[i - 1] % 4)) {
                return false;
            }
            for (int j = 0; j < cells.length; j++) {
                boolean crossed = j < i && cells[j] / 4 == row && speakers[j] > speakers[i];
                boolean hidden = row > cells[j] / 4 && column == speakers[j];
                if (crossed || hidden) {
                    return false;
                }
            }
        }
        return true;
    }

    @Says("All that is told is as things are when it is asked")
    void promise17AsThingsAreNow() {
        some(x);
        x.keep(0);
        due("good(0, 0)", x.good(0, 0), 12);
        due("good(2, 0)", x.good(2, 0), 46);
        x.balloons(0, "3210");
        due("good(0, 0), other balloons", x.good(0, 0), 0);
        due("good(0, 10), other balloons", x.good(0, 10), NONE);
        due("good(2, 0), as before", x.good(2, 0), 46);
        x.restore(0);
        due("good(0, 0), restored", x.good(0, 0), 12);
        due("good(0, 10), restored", x.good(0, 10), 2);
        x.pop();
        due("good(2, 0), gone", x.good(2, 0), UNKNOWN);
        x.put(1, 1, 0);
        due("good(2, 0), a new one", x.good(2, 0), 1);
    }

    // ---- promise 18

    @Says({"into a ROW, 0 to 2 from above, and a COLUMN, 0 to 3", "FAULT: it has other signs"})
    void promise18RowsAreZeroToTwoAndColumnsZeroToThree() {
        for (int sign = 33; sign <= 126; sign++) {
            boolean row = sign >= '0' && sign <= '2';
            boolean column = sign >= '0' && sign <= '3';
            String one = String.valueOf((char) sign);
            isGood("1", one + "1", row ? 1 : FAULT);
            isGood("1", "1" + one, !column ? FAULT : sign == '3' ? 0 : 1);
        }
        String right = "00010203";
        for (int place = 0; place < 8; place++) {
            isGood("0123", right.substring(0, place) + "/" + right.substring(place + 1), FAULT);
            isGood("0123", right.substring(0, place) + "4" + right.substring(place + 1), FAULT);
            if (place % 2 == 0) {
                isGood("0123", right.substring(0, place) + "3" + right.substring(place + 1), FAULT);
            }
        }
    }

    @Says({"two figures for each BALLOON", "or not as many"})
    void promise18TwoFiguresForEach() {
        String rows = "000102030";
        for (int many = 0; many <= 4; many++) {
            x = new Desk().talls(1).balloons(0, "0123".substring(0, many));
            for (int signs = 0; signs <= 9; signs++) {
                x.pad(rows.substring(0, signs));
                due("isGood(0), " + many + " balloons, " + signs + " signs", x.isGood(0), signs == 2 * many ? 1 : FAULT);
            }
        }
        refusedOnce(FAULT, "isGood(0), one sign too few", withPad("021"), (d, v) -> d.isGood(0));
        refusedOnce(FAULT, "isGood(0), one sign too many", withPad("02100"), (d, v) -> d.isGood(0));
        refusedOnce(FAULT, "isGood(1), no balloons, two signs", withPad("00"), (d, v) -> d.isGood(1));
        asks(1, "isGood(0)", withPad("0210"), (d, v) -> d.isGood(0));
        asks(0, "isGood(0)", withPad("0000"), (d, v) -> d.isGood(0));
        asks(1, "isGood(1), no balloons, no signs", withPad(""), (d, v) -> d.isGood(1));
    }

    @Says({"UNKNOWN; FAULT", "answer the first that fits"})
    void promise18UnknownGoesBeforeFault() {
        refused(UNKNOWN, "isGood(panel), empty pad", withPad(""), beside(0, 2), (d, v) -> d.isGood(v));
        refused(UNKNOWN, "isGood(panel), other signs", withPad("3abc"), beside(0, 2), (d, v) -> d.isGood(v));
        refused(UNKNOWN, "isGood(panel), a setting", withPad("0210"), beside(0, 2), (d, v) -> d.isGood(v));
        refused(UNKNOWN, "isGood(panel), no panels", d -> { }, from(-1, 9), (d, v) -> d.isGood(v));
    }

    @Says("FAULT: it has other signs, or not as many")
    void promise18FaultGoesBeforeNotGood() {
        // The first balloon alone makes it not good, yet a later sign makes it no setting.
        isGood("03", "0303", 0);
        isGood("03", "0304", FAULT);
        isGood("03", "0333", FAULT);
        isGood("03", "030", FAULT);
        isGood("03", "03030", FAULT);
        isGood("03", "030303", FAULT);
    }

    @Says("each BALLOON but the first is in the ROW of the one ahead, in a greater COLUMN, or in a greater ROW")
    void promise18ReadInOrder() {
        isGood("12", "0001", 1);
        isGood("12", "0101", 0);
        isGood("12", "0201", 0);
        isGood("12", "2223", 1);
        isGood("12", "2222", 0);
        isGood("12", "1003", 0);
        isGood("12", "0013", 1);
        isGood("12", "0023", 1);
        isGood("12", "1023", 1);
        isGood("20", "0310", 1);
        isGood("20", "2310", 0);
        // It is the one just ahead that counts, and the first may be anywhere.
        isGood("111", "001211", 0);
        isGood("111", "021012", 1);
        isGood("111", "021210", 0);
        isGood("1", "22", 1);
    }

    @Says("each BALLOON's COLUMN is no more than 1 off its SPEAKER's")
    void promise18OneOffItsSpeaker() {
        for (int speaker = 0; speaker <= 3; speaker++) {
            for (int row = 0; row <= 2; row++) {
                for (int column = 0; column <= 3; column++) {
                    isGood("" + speaker, "" + row + column, Math.abs(speaker - column) <= 1 ? 1 : 0);
                }
            }
        }
        // Of the last balloon, too.
        isGood("0123", "00010203", 1);
        isGood("0120", "00010203", 0);
        isGood("0012", "00010203", 1);
        isGood("0011", "00010203", 0);
    }

    @Says("of two BALLOONS in one ROW the SPEAKER of the former does not stand at a greater COLUMN than that of the latter")
    void promise18SpeakersInOneRow() {
        isGood("12", "0102", 1);
        isGood("11", "0102", 1);
        isGood("21", "0102", 0);
        isGood("21", "2122", 0);
        isGood("21", "0110", 1);
        isGood("0121", "00011223", 0);
        isGood("2211", "01020011", 0);
        isGood("2112", "01101112", 0);
        isGood("112", "000102", 1);
        isGood("121", "000102", 0);
    }

    @Says("no BALLOON is in a greater ROW than another one, and in the COLUMN of the SPEAKER of that other one")
    void promise18NoTailIsHidden() {
        isGood("11", "0011", 0);
        isGood("11", "0010", 1);
        isGood("11", "0012", 1);
        isGood("11", "0021", 0);
        // In the column of its balloon, not of its speaker.
        isGood("01", "0111", 1);
        isGood("01", "0110", 0);
        // Of one that is not just ahead, over a row between, or beside one in the row above.
        isGood("131", "001321", 0);
        isGood("131", "001320", 1);
        isGood("132", "000213", 0);
        isGood("132", "000212", 1);
        isGood("132", "000211", 0);
        // Above it, or in one row with it, nothing is hidden.
        isGood("10", "0010", 1);
        isGood("01", "0102", 1);
        isGood("11", "0001", 1);
        isGood("11", "2122", 1);
    }

    /** Every setting of two balloons, against the sentences read one by one. */
    @Says("It is GOOD, if")
    void promise18AllSettingsOfTwo() {
        for (int speakers = 0; speakers < 16; speakers++) {
            int[] both = {speakers / 4, speakers % 4};
            for (int setting = 0; setting < 144; setting++) {
                int[] cells = {setting / 12, setting % 12};
                String signs = "" + cells[0] / 4 + cells[0] % 4 + cells[1] / 4 + cells[1] % 4;
                isGood("" + both[0] + both[1], signs, isRead(both, cells) ? 1 : 0);
            }
        }
    }

    @Says("All that is told is as things are when it is asked")
    void promise18AsThingsAreNow() {
        x.talls(1).balloons(0, "11").keep(0).balloons(0, "3").pad("0001");
        due("isGood(0), one balloon", x.isGood(0), FAULT);
        x.restore(0);
        due("isGood(0), restored", x.isGood(0), 1);
        x.pop();
        due("isGood(0), gone", x.isGood(0), UNKNOWN);
        x.put(1, 1, 0);
        due("isGood(0), a new one", x.isGood(0), FAULT);
        x.wipe();
        due("isGood(0), an empty pad", x.isGood(0), 1);
    }

    public static void main(String[] args) throws IOException {
        new BalloonBoundsTest().runAll(args, 15, 18);
    }
}
