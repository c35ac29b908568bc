/** One object of the class with its calls counted, since nothing is promised behind the 512th. */
final class Desk {
    private static final int MOST_CALLS = 512;

    private final PanelPages pages = new PanelPages();
    private int calls = 0;

    private PanelPages next() {
        calls++;
        if (calls > MOST_CALLS) {
            throw new IllegalStateException("a test makes more than 512 calls on one object");
        }
        return pages;
    }

    int panel(int weight, int tall, int kind) {
        return next().panel(weight, tall, kind);
    }

    int pop() {
        return next().pop();
    }

    int change(int panel, int what, int v) {
        return next().change(panel, what, v);
    }

    int high(int v) {
        return next().high(v);
    }

    int of(int panel, int what) {
        return next().of(panel, what);
    }

    int tier(int panel, int n, int what) {
        return next().tier(panel, n, what);
    }

    int say(int sign) {
        return next().say(sign);
    }

    int wipe() {
        return next().wipe();
    }

    int judge(int what) {
        return next().judge(what);
    }

    int told(int what) {
        return next().told(what);
    }

    int at(int panel, int what) {
        return next().at(panel, what);
    }

    int best(int what) {
        return next().best(what);
    }

    int lay() {
        return next().lay();
    }

    int talk(int panel) {
        return next().talk(panel);
    }

    int speaker(int panel, int i) {
        return next().speaker(panel, i);
    }

    int good(int panel, int what) {
        return next().good(panel, what);
    }

    int isGood(int panel) {
        return next().isGood(panel);
    }

    int image(int k) {
        return next().image(k);
    }

    int restore(int k) {
        return next().restore(k);
    }

    int count(int what) {
        return next().count(what);
    }

    // ---- ways to make an object ready; they stop the test where they do not work

    private static void must(String what, int got, int want) {
        if (got != want) {
            throw new IllegalStateException("making ready: " + what + " answered " + got + ", due is " + want);
        }
    }

    Desk put(int weight, int tall, int kind) {
        must("panel", panel(weight, tall, kind), count(0) - 1);
        return this;
    }

    /** So many panels alike, of weight 1. */
    Desk alike(int many, int tall, int kind) {
        for (int i = 0; i < many; i++) {
            put(1, tall, kind);
        }
        return this;
    }

    /** Panels of weight 1 and tall 1. */
    Desk kinds(int... kinds) {
        for (int kind : kinds) {
            put(1, 1, kind);
        }
        return this;
    }

    /** Plain panels of weight 1. */
    Desk talls(int... talls) {
        for (int tall : talls) {
            put(1, tall, 0);
        }
        return this;
    }

    Desk withHigh(int v) {
        high(v);
        must("high", count(1), v);
        return this;
    }

    Desk pad(String signs) {
        wipe();
        for (int i = 0; i < signs.length(); i++) {
            must("say", say(signs.charAt(i)), i + 1);
        }
        return this;
    }

    Desk balloons(int panel, String speakers) {
        pad(speakers);
        must("talk", talk(panel), speakers.length());
        return this;
    }

    Desk keep(int k) {
        must("image", image(k), 1);
        return this;
    }

    // ---- all that can be seen of an object

    /** Panels, balloons, HIGH, how many signs, which images: this changes nothing. */
    String book() {
        StringBuilder seen = new StringBuilder();
        for (int what = 0; what <= 4; what++) {
            seen.append(count(what)).append(what < 4 ? ' ' : ';');
        }
        int panels = count(0);
        for (int p = 0; p < panels; p++) {
            for (int what = 0; what <= 3; what++) {
                seen.append(what == 0 ? " " : ",").append(of(p, what));
            }
            int balloons = of(p, 3);
            for (int i = 0; i <= balloons; i++) {
                seen.append(i == 0 ? ':' : ',').append(speaker(p, i));
            }
        }
        return seen.toString();
    }

    /** The book, the images and what is on the pad: the object is used up by it. */
    String everything() {
        StringBuilder seen = new StringBuilder(book());
        seen.append(" | judged ").append(judge(0)).append(' ').append(judge(1));
        for (int k = 0; k <= 1; k++) {
            seen.append(" | image ").append(k).append(": ").append(restore(k)).append(' ').append(book());
        }
        return seen.append(" | pad ").append(padSeen()).toString();
    }

    /** Figures are seen where they are a layout, or balloons; of other signs only that there are some. */
    private String padSeen() {
        int signs = count(2);
        for (int panels = count(0); panels > 0; panels--) {
            pop();
        }
        withHigh(20);
        StringBuilder seen = new StringBuilder();
        alike(signs, 1, 0);
        seen.append(signs).append(' ').append(judge(0)).append(' ').append(judge(1));
        for (int p = 0; p < signs; p++) {
            seen.append(' ').append(at(p, 0)).append(',').append(at(p, 1)).append(',').append(at(p, 2));
        }
        seen.append(" talk ").append(talk(0));
        for (int i = 0; i < 4; i++) {
            seen.append(' ').append(speaker(0, i));
        }
        return seen.toString();
    }
}
