import java.util.Random;

/** Long mixed runs of calls, the same ones each time, against the slow telling of the document. */
public final class OracleTest {
    private static final int RUNS = 600;
    private static final int CALLS = 512;

    private final Check check = new Check("OracleTest");
    private final Random random;
    private final int run;
    private final PanelPages x = new PanelPages();
    private final Oracle y = new Oracle();
    private int calls = 0;
    private int mostBest = 25;

    private OracleTest(int run) {
        this.run = run;
        this.random = new Random(run);
    }

    private int to(int least, int most) {
        return least + random.nextInt(most - least + 1);
    }

    /** Mostly within the bounds, now and then just beside them or far off. */
    private int near(int least, int most) {
        int odd = random.nextInt(40);
        if (odd == 0) {
            return least - 1;
        }
        if (odd == 1) {
            return most + 1;
        }
        if (odd == 2) {
            int[] far = {Integer.MIN_VALUE, Integer.MAX_VALUE, Integer.MIN_VALUE + 9, Integer.MAX_VALUE - 3, -10, 48};
            return far[random.nextInt(far.length)];
        }
        return to(least, most);
    }

    private int whatOrIndexed(int most, int mostIndex) {
        return random.nextBoolean() ? near(0, most) : near(10, 10 + mostIndex);
    }

    private int aPanel() {
        return near(0, Math.max(0, y.count(0) - 1));
    }

    private int aKind() {
        return random.nextInt(3) > 0 ? 0 : near(0, 3);
    }

    private void due(String call, int got, int want) {
        calls++;
        check.due("run " + run + ", call " + calls + ": " + call, got, want);
    }

    private void panel() {
        int w = near(1, 9);
        int t = near(1, 6);
        int k = aKind();
        due("panel(" + w + ", " + t + ", " + k + ")", x.panel(w, t, k), y.panel(w, t, k));
    }

    private void change() {
        int p = aPanel();
        int what = near(0, 2);
        int v = what == 2 ? aKind() : near(1, what == 1 ? 6 : 9);
        due("change(" + p + ", " + what + ", " + v + ")", x.change(p, what, v), y.change(p, what, v));
    }

    private void say(int sign) {
        due("say(" + sign + ")", x.say(sign), y.say(sign));
    }

    private void wipe() {
        due("wipe()", x.wipe(), y.wipe());
    }

    private void layOut() {
        wipe();
        int figures = y.count(0) + (random.nextInt(12) == 0 ? to(-1, 1) : 0);
        boolean nearlyRight = random.nextBoolean();
        for (int i = 0; i < figures; i++) {
            int figure = nearlyRight && i == 0 ? 2 : random.nextInt(60) == 0 ? 3 : to(0, 2);
            say('0' + figure);
        }
        askLayout();
        askLayout();
    }

    private void askLayout() {
        int what = near(0, 1);
        due("judge(" + what + ")", x.judge(what), y.judge(what));
        for (int i = 0; i < 4; i++) {
            due("told(" + i + ")", x.told(i), y.told(i));
        }
        int p = aPanel();
        for (int i = 0; i < 4; i++) {
            due("at(" + p + ", " + i + ")", x.at(p, i), y.at(p, i));
        }
        what = near(0, 3);
        due("told(" + what + ")", x.told(what), y.told(what));
        due("at(" + p + ", " + what + ")", x.at(p, what), y.at(p, what));
    }

    private void best() {
        if (mostBest == 0) {
            return;
        }
        mostBest--;
        for (int i = 0; i < 4; i++) {
            due("best(" + i + ")", x.best(i), y.best(i));
        }
        int what = whatOrIndexed(3, 8);
        due("best(" + what + ")", x.best(what), y.best(what));
        if (random.nextBoolean()) {
            due("lay()", x.lay(), y.lay());
            askLayout();
            for (int i = 0; i < 9; i++) {
                due("best(" + (10 + i) + ")", x.best(10 + i), y.best(10 + i));
            }
        }
    }

    private void talk() {
        if (random.nextInt(4) > 0) {
            wipe();
        }
        int balloons = to(0, 4);
        for (int i = 0; i < balloons; i++) {
            say('0' + (random.nextInt(60) == 0 ? 4 : to(0, 3)));
        }
        int p = aPanel();
        due("talk(" + p + ")", x.talk(p), y.talk(p));
        int what = whatOrIndexed(2, 3);
        due("good(" + p + ", " + what + ")", x.good(p, what), y.good(p, what));
    }

    private void setBalloons() {
        int p = aPanel();
        wipe();
        int figures = 2 * Math.max(0, y.of(p, 3)) + (random.nextInt(12) == 0 ? 1 : 0);
        int cell = 0;
        for (int i = 0; i < figures && i < 9; i++) {
            if (i % 2 == 0) {
                cell = random.nextInt(3) == 0 ? to(0, 11) : Math.min(cell + to(0, 4), 11);
            }
            int figure = i % 2 == 0 ? cell / 4 : cell % 4;
            say('0' + (random.nextInt(60) == 0 ? 3 : figure));
        }
        due("isGood(" + p + ")", x.isGood(p), y.isGood(p));
        int what = whatOrIndexed(2, 3);
        due("good(" + p + ", " + what + ")", x.good(p, what), y.good(p, what));
    }

    private void ask() {
        int p = aPanel();
        int what = near(0, 3);
        due("of(" + p + ", " + what + ")", x.of(p, what), y.of(p, what));
        int n = near(1, 4);
        what = whatOrIndexed(1, 3);
        due("tier(" + p + ", " + n + ", " + what + ")", x.tier(p, n, what), y.tier(p, n, what));
        int i = near(0, 3);
        due("speaker(" + p + ", " + i + ")", x.speaker(p, i), y.speaker(p, i));
        for (int w = 0; w < 5; w++) {
            due("count(" + w + ")", x.count(w), y.count(w));
        }
        what = near(0, 4);
        due("count(" + what + ")", x.count(what), y.count(what));
    }

    private void images() {
        int k = near(0, 1);
        if (random.nextBoolean()) {
            due("image(" + k + ")", x.image(k), y.image(k));
        } else {
            due("restore(" + k + ")", x.restore(k), y.restore(k));
        }
    }

    private void next() {
        int choice = random.nextInt(100);
        if (choice < 30) {
            panel();
        } else if (choice < 36) {
            due("pop()", x.pop(), y.pop());
        } else if (choice < 46) {
            change();
        } else if (choice < 51) {
            int v = near(6, 20);
            due("high(" + v + ")", x.high(v), y.high(v));
        } else if (choice < 56) {
            say(near(33, 126));
        } else if (choice < 66) {
            layOut();
        } else if (choice < 74) {
            best();
        } else if (choice < 81) {
            talk();
        } else if (choice < 87) {
            setBalloons();
        } else if (choice < 95) {
            ask();
        } else {
            images();
        }
    }

    private int all() {
        // One turn makes at most some 50 calls: what is promised ends with the 512th.
        while (calls < CALLS - 60 && !check.anyWrong()) {
            next();
        }
        return check.anyWrong() ? 1 : 0;
    }

    public static void main(String[] args) {
        Check check = new Check("OracleTest");
        for (int run = 0; run < RUNS; run++) {
            check.due("run " + run, new OracleTest(run).all(), 0);
        }
        check.end();
    }
}
