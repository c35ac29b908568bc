import java.util.ArrayList;
import java.util.List;

/**
 * The document once more, written as slowly and as near to its words as can be: all layouts and
 * all settings are written out and looked at one by one. It shares no way of working with the class.
 */
final class Oracle {
    static final int UNKNOWN = -1, OUTSIDE = -2, STATE = -3, FULL = -4, NO = -5, NONE = -6, FAULT = -7;

    private static final class Panel {
        int[] feature = new int[3];
        List<Integer> speakers = new ArrayList<>();

        Panel copy() {
            Panel p = new Panel();
            p.feature = feature.clone();
            p.speakers = new ArrayList<>(speakers);
            return p;
        }

        boolean isKind(int... kinds) {
            for (int k : kinds) {
                if (feature[2] == k) {
                    return true;
                }
            }
            return false;
        }
    }

    private static final class Image {
        List<Panel> panels = new ArrayList<>();
        int high;
    }

    private static final class Page {
        int number;
        boolean blank;
        boolean spread;
        List<List<Integer>> tiers = new ArrayList<>();
    }

    private static final class Best {
        int goes = 0;
        int few = 0;
        int pages = NONE;
        int ragged = NONE;
        String layout = null;
    }

    private List<Panel> panels = new ArrayList<>();
    private int high = 10;
    private String pad = "";
    private final Image[] images = new Image[2];
    private Best best = null;

    private boolean known(int panel) {
        return 0 <= panel && panel < panels.size();
    }

    private static boolean inside(int what, int v) {
        int[] least = {1, 1, 0};
        int[] most = {9, 6, 3};
        return 0 <= what && what <= 2 && least[what] <= v && v <= most[what];
    }

    int panel(int weight, int tall, int kind) {
        if (!inside(0, weight) || !inside(1, tall) || !inside(2, kind)) {
            return OUTSIDE;
        }
        if (panels.size() == 9) {
            return FULL;
        }
        best = null;
        Panel p = new Panel();
        p.feature = new int[] {weight, tall, kind};
        panels.add(p);
        return panels.size() - 1;
    }

    int pop() {
        if (panels.isEmpty()) {
            return NO;
        }
        best = null;
        panels.remove(panels.size() - 1);
        return panels.size();
    }

    int change(int panel, int what, int v) {
        if (!known(panel)) {
            return UNKNOWN;
        }
        if (!inside(what, v)) {
            return OUTSIDE;
        }
        best = null;
        int was = panels.get(panel).feature[what];
        panels.get(panel).feature[what] = v;
        return was;
    }

    int high(int v) {
        if (v < 6 || v > 20) {
            return OUTSIDE;
        }
        best = null;
        int was = high;
        high = v;
        return was;
    }

    int of(int panel, int what) {
        if (!known(panel)) {
            return UNKNOWN;
        }
        if (what < 0 || what > 3) {
            return OUTSIDE;
        }
        Panel p = panels.get(panel);
        return what == 3 ? p.speakers.size() : p.feature[what];
    }

    int tier(int panel, int n, int what) {
        if (!known(panel)) {
            return UNKNOWN;
        }
        if (n < 1 || n > 4 || (long) panel + n > panels.size()) {
            return OUTSIDE;
        }
        if (what != 0 && what != 1 && (what < 10 || what > 9 + n)) {
            return OUTSIDE;
        }
        List<Integer> tier = new ArrayList<>();
        for (int i = 0; i < n; i++) {
            tier.add(panel + i);
        }
        return what == 0 ? height(tier) : what == 1 ? gaps(tier) : widths(tier)[what - 10];
    }

    private int height(List<Integer> tier) {
        return tier.stream().mapToInt(i -> panels.get(i).feature[1]).max().getAsInt();
    }

    private int gaps(List<Integer> tier) {
        return tier.stream().mapToInt(i -> height(tier) - panels.get(i).feature[1]).sum();
    }

    private int[] widths(List<Integer> tier) {
        int all = tier.stream().mapToInt(i -> panels.get(i).feature[0]).sum();
        int[] width = new int[tier.size()];
        int[] cut = new int[tier.size()];
        int left = 12;
        for (int i = 0; i < width.length; i++) {
            int twelve = 12 * panels.get(tier.get(i)).feature[0];
            width[i] = twelve / all;
            cut[i] = twelve - width[i] * all;
            left -= width[i];
        }
        for (; left > 0; left--) {
            int most = 0;
            for (int i = 1; i < width.length; i++) {
                if (cut[i] > cut[most]) {
                    most = i;
                }
            }
            width[most]++;
            cut[most] = -1;
        }
        return width;
    }

    int say(int sign) {
        if (sign < 33 || sign > 126) {
            return OUTSIDE;
        }
        if (pad.length() == 9) {
            return FULL;
        }
        pad += (char) sign;
        return pad.length();
    }

    int wipe() {
        int had = pad.length();
        pad = "";
        return had;
    }

    private boolean padIsLayout() {
        return pad.matches("[012]*") && pad.length() == panels.size();
    }

    /** Why figure i of a layout can not be, all ahead of it being right; 0: it can be. */
    private int why(String layout, int i) {
        char figure = layout.charAt(i);
        Panel own = panels.get(i);
        Panel ahead = i == 0 ? null : panels.get(i - 1);
        if (figure != '2' && ahead == null) {
            return 1;
        }
        if (figure == '0' && layout.substring(0, i).matches(".*[12]000")) {
            return 2;
        }
        if (figure == '0' && (own.isKind(1, 2) || ahead.isKind(1, 2))) {
            return 3;
        }
        if (figure != '2' && (own.isKind(2, 3) || ahead.isKind(2))) {
            return 4;
        }
        List<Page> pages = pages(layout.substring(0, i + 1));
        int all = pages.get(pages.size() - 1).tiers.stream().mapToInt(this::height).sum();
        return all > high && !own.isKind(2) ? 5 : 0;
    }

    /** Pages with their tiers; of a spread just the lesser page stands here. */
    private List<Page> pages(String layout) {
        List<Page> pages = new ArrayList<>();
        int next = 0;
        for (int i = 0; i < layout.length(); i++) {
            if (layout.charAt(i) == '2') {
                if (panels.get(i).isKind(2, 3) && next % 2 == 0) {
                    Page between = new Page();
                    between.number = next++;
                    between.blank = true;
                    pages.add(between);
                }
                Page page = new Page();
                page.number = next++;
                if (panels.get(i).isKind(2)) {
                    page.spread = true;
                    next++;
                }
                pages.add(page);
            }
            List<List<Integer>> tiers = pages.get(pages.size() - 1).tiers;
            if (layout.charAt(i) != '0') {
                tiers.add(new ArrayList<>());
            }
            tiers.get(tiers.size() - 1).add(i);
        }
        return pages;
    }

    private int howMany(List<Page> pages) {
        int all = 0;
        for (Page page : pages) {
            all += page.spread ? 2 : 1;
        }
        return all;
    }

    private int ragged(List<Page> pages) {
        int all = 0;
        for (Page page : pages) {
            if (!page.spread) {
                int room = high - page.tiers.stream().mapToInt(this::height).sum();
                all += room * room + page.tiers.stream().mapToInt(this::gaps).sum();
            }
        }
        return all;
    }

    int judge(int what) {
        if (what < 0 || what > 1) {
            return OUTSIDE;
        }
        if (!padIsLayout()) {
            return FAULT;
        }
        for (int i = 0; i < pad.length(); i++) {
            if (why(pad, i) != 0) {
                return what == 0 ? i : why(pad, i);
            }
        }
        return NONE;
    }

    int told(int what) {
        if (what < 0 || what > 3) {
            return OUTSIDE;
        }
        if (!padIsLayout()) {
            return FAULT;
        }
        if (judge(0) != NONE) {
            return NO;
        }
        List<Page> pages = pages(pad);
        switch (what) {
            case 0:
                return howMany(pages);
            case 1:
                return ragged(pages);
            case 2:
                return pages.stream().mapToInt(p -> p.tiers.size()).sum();
            default:
                return (int) pages.stream().filter(p -> p.blank).count();
        }
    }

    int at(int panel, int what) {
        if (!known(panel)) {
            return UNKNOWN;
        }
        if (what < 0 || what > 3) {
            return OUTSIDE;
        }
        if (!padIsLayout()) {
            return FAULT;
        }
        if (judge(0) != NONE) {
            return NO;
        }
        for (Page page : pages(pad)) {
            for (int t = 0; t < page.tiers.size(); t++) {
                int place = page.tiers.get(t).indexOf(panel);
                if (place >= 0) {
                    int width = page.spread ? 24 : widths(page.tiers.get(t))[place];
                    return new int[] {page.number, t, place, width}[what];
                }
            }
        }
        throw new IllegalStateException("a panel is on no page");
    }

    private Best findBest() {
        if (best == null) {
            best = new Best();
            writeOut("");
        }
        return best;
    }

    /** All layouts that go, in their order. */
    private void writeOut(String layout) {
        if (layout.length() == panels.size()) {
            List<Page> pages = pages(layout);
            int many = howMany(pages);
            int uneven = ragged(pages);
            best.goes++;
            if (best.layout == null || many < best.pages) {
                best.few = 0;
            }
            if (best.few == 0 || many == best.pages && uneven < best.ragged) {
                best.pages = many;
                best.ragged = uneven;
                best.layout = layout;
            }
            if (many == best.pages) {
                best.few++;
            }
            return;
        }
        for (String figure : new String[] {"0", "1", "2"}) {
            if (why(layout + figure, layout.length()) == 0) {
                writeOut(layout + figure);
            }
        }
    }

    int best(int what) {
        if ((what < 0 || what > 3) && (what < 10 || what > 18)) {
            return OUTSIDE;
        }
        Best b = findBest();
        switch (what) {
            case 0:
                return b.pages;
            case 1:
                return b.ragged;
            case 2:
                return b.goes;
            case 3:
                return b.goes == 0 ? NONE : b.few;
            default:
                return what - 10 < panels.size() ? b.layout.charAt(what - 10) - '0' : NONE;
        }
    }

    int lay() {
        if (findBest().layout == null) {
            return NO;
        }
        pad = findBest().layout;
        return pad.length();
    }

    int talk(int panel) {
        if (!known(panel)) {
            return UNKNOWN;
        }
        if (!pad.matches("[0123]{0,4}")) {
            return FAULT;
        }
        List<Integer> speakers = new ArrayList<>();
        for (char figure : pad.toCharArray()) {
            speakers.add(figure - '0');
        }
        panels.get(panel).speakers = speakers;
        pad = "";
        return speakers.size();
    }

    int speaker(int panel, int i) {
        if (!known(panel)) {
            return UNKNOWN;
        }
        List<Integer> speakers = panels.get(panel).speakers;
        return 0 <= i && i < speakers.size() ? speakers.get(i) : NONE;
    }

    private static boolean isGood(List<Integer> speakers, int[] row, int[] column) {
        for (int i = 0; i < row.length; i++) {
            if (i > 0 && !(row[i] == row[i - 1] && column[i] > column[i - 1] || row[i] > row[i - 1])) {
                return false;
            }
            if (Math.abs(column[i] - speakers.get(i)) > 1) {
                return false;
            }
            for (int j = 0; j < row.length; j++) {
                if (i < j && row[i] == row[j] && speakers.get(i) > speakers.get(j)) {
                    return false;
                }
                if (row[i] > row[j] && column[i] == speakers.get(j)) {
                    return false;
                }
            }
        }
        return true;
    }

    int good(int panel, int what) {
        if (!known(panel)) {
            return UNKNOWN;
        }
        if ((what < 0 || what > 2) && (what < 10 || what > 13)) {
            return OUTSIDE;
        }
        List<Integer> speakers = panels.get(panel).speakers;
        int n = speakers.size();
        int settings = (int) Math.pow(12, n);
        int good = 0;
        int least = 99;
        int few = 0;
        int[] first = null;
        for (int s = 0; s < settings; s++) {
            int[] row = new int[n];
            int[] column = new int[n];
            int deep = 0;
            int rest = s;
            for (int i = n - 1; i >= 0; i--) {
                row[i] = rest % 12 / 4;
                column[i] = rest % 4;
                rest /= 12;
                deep = Math.max(deep, row[i] + 1);
            }
            if (!isGood(speakers, row, column)) {
                continue;
            }
            good++;
            if (deep < least) {
                least = deep;
                few = 0;
                first = new int[n];
                for (int i = 0; i < n; i++) {
                    first[i] = 4 * row[i] + column[i];
                }
            }
            few += deep == least ? 1 : 0;
        }
        if (what == 0) {
            return good;
        }
        if (good == 0 || what - 10 >= n) {
            return NONE;
        }
        return what == 1 ? least : what == 2 ? few : first[what - 10];
    }

    int isGood(int panel) {
        if (!known(panel)) {
            return UNKNOWN;
        }
        List<Integer> speakers = panels.get(panel).speakers;
        int n = speakers.size();
        if (!pad.matches("([012][0123])*") || pad.length() != 2 * n) {
            return FAULT;
        }
        int[] row = new int[n];
        int[] column = new int[n];
        for (int i = 0; i < n; i++) {
            row[i] = pad.charAt(2 * i) - '0';
            column[i] = pad.charAt(2 * i + 1) - '0';
        }
        return isGood(speakers, row, column) ? 1 : 0;
    }

    private static List<Panel> copy(List<Panel> from) {
        List<Panel> to = new ArrayList<>();
        for (Panel p : from) {
            to.add(p.copy());
        }
        return to;
    }

    int image(int k) {
        if (k < 0 || k > 1) {
            return OUTSIDE;
        }
        images[k] = new Image();
        images[k].panels = copy(panels);
        images[k].high = high;
        return 1;
    }

    int restore(int k) {
        if (k < 0 || k > 1) {
            return OUTSIDE;
        }
        if (images[k] == null) {
            return STATE;
        }
        best = null;
        panels = copy(images[k].panels);
        high = images[k].high;
        return 1;
    }

    int count(int what) {
        switch (what) {
            case 0:
                return panels.size();
            case 1:
                return high;
            case 2:
                return pad.length();
            case 3:
                return panels.stream().mapToInt(p -> p.speakers.size()).sum();
            case 4:
                return (images[0] == null ? 0 : 1) + (images[1] == null ? 0 : 2);
            default:
                return OUTSIDE;
        }
    }
}
