import java.io.IOException;

/** Boundary cases of promises 19 to 21. */
public final class ImageBoundsTest extends Sentences {
    private static void some(Desk d) {
        d.put(2, 3, ALONE).put(4, 5, PLAIN).balloons(1, "30").withHigh(13).pad("221");
    }

    private static void one(Desk d) {
        some(d);
        d.keep(1).put(9, 6, REVEAL).balloons(2, "0123").withHigh(20).pad("212");
    }

    private static void full(Desk d) {
        for (int i = 0; i < 9; i++) {
            d.put(9 - i, i % 6 + 1, i % 4).balloons(i, "3210");
        }
        d.withHigh(20).pad("201201201");
    }

    private void counts(int panels, int high, int signs, int balloons, int images) {
        due("count(0)", x.count(0), panels);
        due("count(1)", x.count(1), high);
        due("count(2)", x.count(2), signs);
        due("count(3)", x.count(3), balloons);
        due("count(4)", x.count(4), images);
    }

    /** The book without how many signs the pad has and which images are kept. */
    private String kept() {
        String book = x.book();
        return x.count(0) + " " + x.count(1) + " " + x.count(3) + book.substring(book.indexOf(';'));
    }

    // ---- promise 19

    @Says({"All but THE PAD and IMAGES is kept in an IMAGE (0, 1)", "OUTSIDE."})
    void promise19ImagesAreZeroAndOne() {
        refused(OUTSIDE, "image(k), new", d -> { }, beside(0, 1), (d, v) -> d.image(v));
        refused(OUTSIDE, "image(k), one kept", ImageBoundsTest::one, beside(0, 1), (d, v) -> d.image(v));
        due("image(1)", x.image(1), 1);
        due("count(4)", x.count(4), 2);
        due("image(0)", x.image(0), 1);
        due("count(4)", x.count(4), 3);
        due("image(0), again", x.image(0), 1);
        due("image(1), again", x.image(1), 1);
        due("count(4)", x.count(4), 3);
    }

    @Says("in place of what was kept there")
    void promise19InPlaceOfWhatWasKept() {
        full(x);
        x.keep(0);
        x.keep(1);
        x.pop();
        String eight = kept();
        due("image(0), eight in place of nine", x.image(0), 1);
        due("restore(1), nine", x.restore(1), 1);
        due("count(0)", x.count(0), 9);
        due("restore(0), eight", x.restore(0), 1);
        same("the later one", kept(), eight);
        due("image(1)", x.image(1), 1);
        due("restore(1)", x.restore(1), 1);
        same("the later one, too", kept(), eight);
    }

    @Says("All but THE PAD and IMAGES is kept")
    void promise19NothingChangesByKeeping() {
        one(x);
        String before = x.book();
        due("image(1)", x.image(1), 1);
        same("behind image(1)", x.book(), before);
        due("judge(0), the pad is there yet", x.judge(0), NONE);
    }

    @Says("All but THE PAD and IMAGES is kept")
    void promise19EmptyAndFullAreKept() {
        x.keep(0);
        full(x);
        String nine = kept();
        x.keep(1);
        due("restore(0)", x.restore(0), 1);
        counts(0, 10, 9, 0, 3);
        due("restore(1)", x.restore(1), 1);
        counts(9, 20, 9, 36, 3);
        same("nine with all balloons", kept(), nine);
    }

    // ---- promise 20

    @Says({"OUTSIDE; STATE: nothing was kept in it.", "answer the first that fits"})
    void promise20OutsideGoesBeforeState() {
        refused(OUTSIDE, "restore(k), new", d -> { }, beside(0, 1), (d, v) -> d.restore(v));
        refused(OUTSIDE, "restore(k), one kept", ImageBoundsTest::one, beside(0, 1), (d, v) -> d.restore(v));
        refused(OUTSIDE, "restore(k), both kept", d -> {
            one(d);
            d.keep(0);
        }, beside(0, 1), (d, v) -> d.restore(v));
    }

    @Says("STATE: nothing was kept in it.")
    void promise20NothingWasKept() {
        refused(STATE, "restore(k), new", d -> { }, from(0, 1), (d, v) -> d.restore(v));
        refused(STATE, "restore(k), none kept", ImageBoundsTest::some, from(0, 1), (d, v) -> d.restore(v));
        refusedOnce(STATE, "restore(0), the other kept", ImageBoundsTest::one, (d, v) -> d.restore(0));
        refusedOnce(STATE, "restore(1), the other kept", d -> d.talls(1).keep(0).withHigh(6), (d, v) -> d.restore(1));
        // Restoring one keeps nothing in the other.
        one(x);
        due("restore(1)", x.restore(1), 1);
        due("restore(0)", x.restore(0), STATE);
        due("count(4)", x.count(4), 2);
    }

    @Says("All but THE PAD and IMAGES is as it was when it was kept; the IMAGE stays: 1")
    void promise20ImageStays() {
        some(x);
        String then = kept();
        x.keep(0);
        for (int again = 0; again < 3; again++) {
            x.change(0, 0, 9);
            x.change(0, 1, 6);
            x.change(1, 2, SPREAD);
            x.balloons(1, "0123").balloons(0, "1").withHigh(6);
            x.pop();
            x.put(1, 1, REVEAL).put(1, 1, 0).pad("10");
            due("restore(0)", x.restore(0), 1);
            same("as it was kept", kept(), then);
            due("count(2), the pad is as it is", x.count(2), 2);
            due("judge(1), the pad is as it is", x.judge(1), 1);
            due("count(4)", x.count(4), 1);
        }
    }

    @Says("All but THE PAD and IMAGES is as it was when it was kept")
    void promise20FewerAndMorePanels() {
        x.keep(0);
        full(x);
        String nine = kept();
        x.keep(1);
        for (int again = 0; again < 2; again++) {
            due("restore(0), none", x.restore(0), 1);
            due("count(0)", x.count(0), 0);
            due("of(0, 0)", x.of(0, 0), UNKNOWN);
            due("pop()", x.pop(), NO);
            due("panel, the first", x.panel(1, 1, 0), 0);
            due("of(0, 3), no balloons left over", x.of(0, 3), 0);
            due("restore(1), nine", x.restore(1), 1);
            same("nine", kept(), nine);
            due("panel, a tenth", x.panel(1, 1, 0), FULL);
        }
    }

    /** The first and the ninth panel, the first and the fourth balloon: all of them come back. */
    @Says({"PANELS, up to 9", "up to 4 BALLOONS", "is as it was when it was kept"})
    void promise20FirstAndNinthPanel() {
        full(x);
        x.keep(0);
        change(0, REVEAL);
        change(8, ALONE);
        x.keep(1);
        for (int again = 0; again < 2; again++) {
            due("restore(0)", x.restore(0), 1);
            same("the first as kept first", one(0), "9 1 0 4: 3210");
            same("the ninth as kept first", one(8), "1 3 0 4: 3210");
            due("restore(1)", x.restore(1), 1);
            same("the first as kept later", one(0), "5 5 3 3: 012");
            same("the ninth as kept later", one(8), "5 5 1 3: 012");
            x.balloons(0, "1111").balloons(8, "0000");
        }
    }

    private void change(int panel, int kind) {
        x.change(panel, 0, 5);
        x.change(panel, 1, 5);
        x.change(panel, 2, kind);
        x.balloons(panel, "012");
    }

    private String one(int panel) {
        StringBuilder seen = new StringBuilder();
        for (int what = 0; what <= 3; what++) {
            seen.append(x.of(panel, what)).append(what < 3 ? " " : ": ");
        }
        for (int i = 0; x.speaker(panel, i) != NONE && i < 9; i++) {
            seen.append(x.speaker(panel, i));
        }
        return seen.toString();
    }

    @Says("All but THE PAD and IMAGES")
    void promise20OtherImageIsAsItWas() {
        one(x);
        String now = kept();
        x.keep(0);
        due("restore(1)", x.restore(1), 1);
        due("count(0)", x.count(0), 2);
        due("restore(0), not touched by the other", x.restore(0), 1);
        same("the other image", kept(), now);
    }

    @Says("All but THE PAD and IMAGES")
    void promise20FullPadStays() {
        full(x);
        x.keep(1);
        due("restore(1)", x.restore(1), 1);
        due("count(2)", x.count(2), 9);
        due("say(50), full", x.say(50), FULL);
        x.pad("!");
        due("restore(1)", x.restore(1), 1);
        due("count(2)", x.count(2), 1);
        x.wipe();
        due("restore(1)", x.restore(1), 1);
        due("count(2)", x.count(2), 0);
    }

    // ---- promise 21

    @Says({"PANELS (0), HIGH (1), signs of THE PAD (2), BALLOONS of all PANELS (3), which IMAGES are kept, a set: bits 0, 1 (4)", "OUTSIDE."})
    void promise21WhatIsZeroToFour() {
        refused(OUTSIDE, "count(what), new", d -> { }, beside(0, 4), (d, v) -> d.count(v));
        refused(OUTSIDE, "count(what), full", ImageBoundsTest::full, beside(0, 4), (d, v) -> d.count(v));
        counts(0, 10, 0, 0, 0);
        one(x);
        counts(3, 20, 3, 6, 2);
    }

    @Says("PANELS (0), HIGH (1), signs of THE PAD (2), BALLOONS of all PANELS (3)")
    void promise21EmptyAndFull() {
        counts(0, 10, 0, 0, 0);
        full(x);
        counts(9, 20, 9, 36, 0);
        due("panel, refused", x.panel(1, 1, 0), FULL);
        due("say, refused", x.say(50), FULL);
        due("talk, refused", x.talk(0), FAULT);
        due("high, refused", x.high(21), OUTSIDE);
        due("restore, refused", x.restore(0), STATE);
        counts(9, 20, 9, 36, 0);
        x.withHigh(6);
        x.wipe();
        x.talk(0);
        counts(9, 6, 0, 32, 0);
        while (x.count(0) > 0) {
            x.pop();
        }
        counts(0, 6, 0, 0, 0);
    }

    @Says("which IMAGES are kept, a set: bits 0, 1 (4)")
    void promise21SetOfImages() {
        due("count(4)", x.count(4), 0);
        due("count(4), image 0", new Desk().keep(0).count(4), 1);
        due("count(4), image 1", new Desk().keep(1).count(4), 2);
        due("count(4), both", new Desk().keep(1).keep(0).count(4), 3);
        due("count(4), one twice", new Desk().keep(1).keep(1).count(4), 2);
        x.keep(0);
        x.restore(0);
        due("count(4), restored", x.count(4), 1);
        x.restore(1);
        due("count(4), refused", x.count(4), 1);
        x.image(2);
        due("count(4), refused", x.count(4), 1);
    }

    public static void main(String[] args) throws IOException {
        new ImageBoundsTest().runAll(args, 19, 21);
    }
}
