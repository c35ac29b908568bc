/**
 * Panels poured into pages: panels go into tiers, tiers into pages, and balloons into panels.
 * Refused calls answer one of the negative constants and change nothing.
 */
public final class PanelPages {
    public static final int UNKNOWN = -1, OUTSIDE = -2, STATE = -3, FULL = -4, NO = -5, NONE = -6, FAULT = -7;

    private static final int MOST_PANELS = 9;
    private static final int MOST_SIGNS = 9;
    private static final int MOST_IN_TIER = 4;
    private static final int MOST_BALLOONS = 4;
    private static final int IMAGES = 2;

    private static final int LEAST_HIGH = 6;
    private static final int MOST_HIGH = 20;
    private static final int HIGH_AT_FIRST = 10;
    private static final int PAGE_WIDTH = 12;

    private static final int WEIGHT = 0, TALL = 1, KIND = 2, BALLOONS = 3;
    private static final int ALONE = 1, SPREAD = 2, REVEAL = 3;
    private static final int GOES_ON = 0, BEGINS_TIER = 1, BEGINS_PAGE = 2;
    private static final int COLUMNS = 4, ROWS = 3;

    // Answers with an index of their own are asked for by 10 and the index.
    private static final int INDEXED = 10;

    private final Book book = new Book();
    private final Pad pad = new Pad();
    private final Layout layout = new Layout();
    private final Search search = new Search();
    private final Setting setting = new Setting();
    private final Book[] kept = new Book[IMAGES];
    private int keptSet = 0;

    public PanelPages() {
        for (int k = 0; k < IMAGES; k++) {
            kept[k] = new Book();
        }
    }

    // ---- 1 panels

    public int panel(int weight, int tall, int kind) {
        if (!isFeature(WEIGHT, weight) || !isFeature(TALL, tall) || !isFeature(KIND, kind)) {
            return OUTSIDE;
        }
        if (book.panels >= MOST_PANELS) {
            return FULL;
        }
        int number = book.panels;
        book.weight[number] = weight;
        book.tall[number] = tall;
        book.kind[number] = kind;
        book.balloons[number] = 0;
        book.panels = number + 1;
        return number;
    }

    public int pop() {
        if (book.panels < 1) {
            return NO;
        }
        book.panels--;
        return book.panels;
    }

    public int change(int panel, int what, int v) {
        if (!book.has(panel)) {
            return UNKNOWN;
        }
        if (!isFeature(what, v)) {
            return OUTSIDE;
        }
        int before = book.feature(panel, what);
        if (what == WEIGHT) {
            book.weight[panel] = v;
        } else if (what == TALL) {
            book.tall[panel] = v;
        } else {
            book.kind[panel] = v;
        }
        return before;
    }

    public int high(int v) {
        if (v < LEAST_HIGH || v > MOST_HIGH) {
            return OUTSIDE;
        }
        int before = book.high;
        book.high = v;
        return before;
    }

    public int of(int panel, int what) {
        if (!book.has(panel)) {
            return UNKNOWN;
        }
        if (what < WEIGHT || what > BALLOONS) {
            return OUTSIDE;
        }
        return book.feature(panel, what);
    }

    public int tier(int panel, int n, int what) {
        if (!book.has(panel)) {
            return UNKNOWN;
        }
        if (n < 1 || n > MOST_IN_TIER || panel + n > book.panels) {
            return OUTSIDE;
        }
        if (what == 0) {
            return book.tierHeight(panel, n);
        }
        if (what == 1) {
            return book.tierGaps(panel, n);
        }
        if (what < INDEXED || what >= INDEXED + n) {
            return OUTSIDE;
        }
        return book.tierWidth(panel, n, what - INDEXED);
    }

    private static boolean isFeature(int what, int v) {
        switch (what) {
            case WEIGHT:
                return v >= 1 && v <= 9;
            case TALL:
                return v >= 1 && v <= 6;
            case KIND:
                return v >= 0 && v <= 3;
            default:
                return false;
        }
    }

    // ---- 2 layouts

    public int say(int sign) {
        if (sign < 33 || sign > 126) {
            return OUTSIDE;
        }
        if (pad.size >= MOST_SIGNS) {
            return FULL;
        }
        pad.add(sign);
        return pad.size;
    }

    public int wipe() {
        int had = pad.size;
        pad.size = 0;
        return had;
    }

    public int judge(int what) {
        if (what < 0 || what > 1) {
            return OUTSIDE;
        }
        if (!padIsLayout()) {
            return FAULT;
        }
        int why = layout.pour(book, pad);
        if (why == 0) {
            return NONE;
        }
        return what == 0 ? layout.poured : why;
    }

    public int told(int what) {
        if (what < 0 || what > 3) {
            return OUTSIDE;
        }
        if (!padIsLayout()) {
            return FAULT;
        }
        if (layout.pour(book, pad) != 0) {
            return NO;
        }
        layout.numberPages(book);
        switch (what) {
            case 0:
                return layout.pages;
            case 1:
                return layout.ragged;
            case 2:
                return layout.tiers;
            default:
                return layout.blanks;
        }
    }

    public int at(int panel, int what) {
        if (!book.has(panel)) {
            return UNKNOWN;
        }
        if (what < 0 || what > 3) {
            return OUTSIDE;
        }
        if (!padIsLayout()) {
            return FAULT;
        }
        if (layout.pour(book, pad) != 0) {
            return NO;
        }
        layout.numberPages(book);
        switch (what) {
            case 0:
                return layout.page[panel];
            case 1:
                return layout.tierOnPage[panel];
            case 2:
                return layout.place[panel];
            default:
                return layout.width(book, panel);
        }
    }

    public int best(int what) {
        boolean asksFigure = what >= INDEXED && what < INDEXED + MOST_PANELS;
        if (!asksFigure && (what < 0 || what > 3)) {
            return OUTSIDE;
        }
        if (asksFigure && !book.has(what - INDEXED)) {
            return NONE;
        }
        search.run(book);
        if (what == 2) {
            return search.goes();
        }
        if (search.goes() == 0) {
            return NONE;
        }
        switch (what) {
            case 0:
                return search.fewestPages();
            case 1:
                return search.leastRagged();
            case 3:
                return search.goesInFewest();
            default:
                return search.figure(book, what - INDEXED);
        }
    }

    public int lay() {
        search.run(book);
        if (search.goes() == 0) {
            return NO;
        }
        pad.size = 0;
        for (int i = 0; i < book.panels; i++) {
            pad.add('0' + search.figure(book, i));
        }
        return pad.size;
    }

    private boolean padIsLayout() {
        return pad.size == book.panels && pad.hasOnlyFigures(BEGINS_PAGE);
    }

    // ---- 3 balloons

    public int talk(int panel) {
        if (!book.has(panel)) {
            return UNKNOWN;
        }
        if (pad.size > MOST_BALLOONS || !pad.hasOnlyFigures(COLUMNS - 1)) {
            return FAULT;
        }
        int told = pad.size;
        for (int i = 0; i < told; i++) {
            book.speakers[panel * MOST_BALLOONS + i] = pad.figure(i);
        }
        book.balloons[panel] = told;
        pad.size = 0;
        return told;
    }

    public int speaker(int panel, int i) {
        if (!book.has(panel)) {
            return UNKNOWN;
        }
        if (i < 0 || i >= book.balloons[panel]) {
            return NONE;
        }
        return book.speakerColumn(panel, i);
    }

    public int good(int panel, int what) {
        if (!book.has(panel)) {
            return UNKNOWN;
        }
        boolean asksBalloon = what >= INDEXED && what < INDEXED + MOST_BALLOONS;
        if (!asksBalloon && (what < 0 || what > 2)) {
            return OUTSIDE;
        }
        if (asksBalloon && what - INDEXED >= book.balloons[panel]) {
            return NONE;
        }
        setting.findGood(book, panel);
        if (what == 0) {
            return setting.found;
        }
        if (setting.found == 0) {
            return NONE;
        }
        if (what == 1) {
            return setting.leastDeep;
        }
        return what == 2 ? setting.foundLeastDeep : setting.first[what - INDEXED];
    }

    public int isGood(int panel) {
        if (!book.has(panel)) {
            return UNKNOWN;
        }
        if (!padIsSetting(panel)) {
            return FAULT;
        }
        for (int i = 0; i < book.balloons[panel]; i++) {
            setting.cell[i] = COLUMNS * pad.figure(2 * i) + pad.figure(2 * i + 1);
            if (!setting.fits(book, panel, i)) {
                return 0;
            }
        }
        return 1;
    }

    private boolean padIsSetting(int panel) {
        if (pad.size != 2 * book.balloons[panel]) {
            return false;
        }
        for (int i = 0; i < book.balloons[panel]; i++) {
            if (!pad.isFigure(2 * i, ROWS - 1) || !pad.isFigure(2 * i + 1, COLUMNS - 1)) {
                return false;
            }
        }
        return true;
    }

    // ---- 4 images

    public int image(int k) {
        if (k < 0 || k >= IMAGES) {
            return OUTSIDE;
        }
        kept[k].copyFrom(book);
        keptSet |= 1 << k;
        return 1;
    }

    public int restore(int k) {
        if (k < 0 || k >= IMAGES) {
            return OUTSIDE;
        }
        if ((keptSet & 1 << k) == 0) {
            return STATE;
        }
        book.copyFrom(kept[k]);
        return 1;
    }

    public int count(int what) {
        switch (what) {
            case 0:
                return book.panels;
            case 1:
                return book.high;
            case 2:
                return pad.size;
            case 3:
                return book.allBalloons();
            case 4:
                return keptSet;
            default:
                return OUTSIDE;
        }
    }

    /** The panels with their balloons, and HIGH: just what an image keeps. */
    private static final class Book {
        int panels = 0;
        int high = HIGH_AT_FIRST;
        final int[] weight = new int[MOST_PANELS];
        final int[] tall = new int[MOST_PANELS];
        final int[] kind = new int[MOST_PANELS];
        final int[] balloons = new int[MOST_PANELS];
        final int[] speakers = new int[MOST_PANELS * MOST_BALLOONS];

        void copyFrom(Book other) {
            panels = other.panels;
            high = other.high;
            System.arraycopy(other.weight, 0, weight, 0, MOST_PANELS);
            System.arraycopy(other.tall, 0, tall, 0, MOST_PANELS);
            System.arraycopy(other.kind, 0, kind, 0, MOST_PANELS);
            System.arraycopy(other.balloons, 0, balloons, 0, MOST_PANELS);
            System.arraycopy(other.speakers, 0, speakers, 0, MOST_PANELS * MOST_BALLOONS);
        }

        boolean has(int panel) {
            return panel >= 0 && panel < panels;
        }

        int feature(int panel, int what) {
            switch (what) {
                case WEIGHT:
                    return weight[panel];
                case TALL:
                    return tall[panel];
                case KIND:
                    return kind[panel];
                default:
                    return balloons[panel];
            }
        }

        boolean isSpread(int panel) {
            return kind[panel] == SPREAD;
        }

        boolean wantsOwnTier(int panel) {
            return kind[panel] == ALONE || kind[panel] == SPREAD;
        }

        boolean wantsLeftPage(int panel) {
            return kind[panel] == SPREAD || kind[panel] == REVEAL;
        }

        int speakerColumn(int panel, int i) {
            return speakers[panel * MOST_BALLOONS + i];
        }

        int allBalloons() {
            int all = 0;
            for (int i = 0; i < panels; i++) {
                all += balloons[i];
            }
            return all;
        }

        int tierHeight(int from, int n) {
            int height = 0;
            for (int i = from; i < from + n; i++) {
                height = Math.max(height, tall[i]);
            }
            return height;
        }

        int tierGaps(int from, int n) {
            int height = tierHeight(from, n);
            int gaps = 0;
            for (int i = from; i < from + n; i++) {
                gaps += height - tall[i];
            }
            return gaps;
        }

        int tierWidth(int from, int n, int index) {
            int all = 0;
            for (int i = from; i < from + n; i++) {
                all += weight[i];
            }
            if (all < 1) {
                return 0;
            }
            int own = from + index;
            int ownCut = PAGE_WIDTH * weight[own] % all;
            int left = PAGE_WIDTH;
            int servedAhead = 0;
            for (int i = from; i < from + n; i++) {
                int cut = PAGE_WIDTH * weight[i] % all;
                left -= PAGE_WIDTH * weight[i] / all;
                if (cut > ownCut || cut == ownCut && i < own) {
                    servedAhead++;
                }
            }
            return PAGE_WIDTH * weight[own] / all + (servedAhead < left ? 1 : 0);
        }
    }

    /** The signs told so far. */
    private static final class Pad {
        int size = 0;
        final int[] signs = new int[MOST_SIGNS];

        void add(int sign) {
            if (size < MOST_SIGNS) {
                signs[size] = sign;
                size++;
            }
        }

        int figure(int i) {
            return signs[i] - '0';
        }

        boolean isFigure(int i, int greatest) {
            return figure(i) >= 0 && figure(i) <= greatest;
        }

        boolean hasOnlyFigures(int greatest) {
            for (int i = 0; i < size; i++) {
                if (!isFigure(i, greatest)) {
                    return false;
                }
            }
            return true;
        }
    }

    /**
     * A layout that grows figure by figure. The rows tell, for each panel, how its page stands
     * when that panel is the last one on it, so a search can go back by putting a panel anew.
     */
    private static final class Layout {
        int poured = 0;
        int pages = 0;
        int blanks = 0;
        int tiers = 0;
        int ragged = 0;
        final int[] figures = new int[MOST_PANELS];
        final int[] page = new int[MOST_PANELS];
        final int[] tierOnPage = new int[MOST_PANELS];
        final int[] place = new int[MOST_PANELS];
        final int[] heightAbove = new int[MOST_PANELS];
        final int[] height = new int[MOST_PANELS];
        final int[] gapsOnPage = new int[MOST_PANELS];

        /** Puts figures up to the first that can not be; answers why it can not, or 0. */
        int pour(Book book, Pad pad) {
            for (poured = 0; poured < book.panels; poured++) {
                int figure = pad.figure(poured);
                int why = whyNot(book, poured, figure);
                if (why != 0) {
                    return why;
                }
                put(book, poured, figure);
            }
            return 0;
        }

        int whyNot(Book book, int i, int figure) {
            if (figure != BEGINS_PAGE && i < 1) {
                return 1;
            }
            if (figure == GOES_ON && place[i - 1] + 1 >= MOST_IN_TIER) {
                return 2;
            }
            if (figure == GOES_ON && (book.wantsOwnTier(i) || book.wantsOwnTier(i - 1))) {
                return 3;
            }
            if (figure != BEGINS_PAGE && (book.wantsLeftPage(i) || book.isSpread(i - 1))) {
                return 4;
            }
            if (!book.isSpread(i) && pageHeightWith(book, i, figure) > book.high) {
                return 5;
            }
            return 0;
        }

        private int pageHeightWith(Book book, int i, int figure) {
            int tall = book.tall[i];
            if (figure == BEGINS_PAGE || i < 1) {
                return tall;
            }
            if (figure == BEGINS_TIER) {
                return heightAbove[i - 1] + height[i - 1] + tall;
            }
            return heightAbove[i - 1] + Math.max(height[i - 1], tall);
        }

        void put(Book book, int i, int figure) {
            figures[i] = figure;
            if (figure == BEGINS_PAGE || i < 1) {
                beginPage(book, i);
            } else if (figure == BEGINS_TIER) {
                beginTier(book, i);
            } else {
                goOn(book, i);
            }
        }

        private void beginPage(Book book, int i) {
            tierOnPage[i] = 0;
            place[i] = 0;
            heightAbove[i] = 0;
            height[i] = book.tall[i];
            gapsOnPage[i] = 0;
        }

        private void beginTier(Book book, int i) {
            tierOnPage[i] = tierOnPage[i - 1] + 1;
            place[i] = 0;
            heightAbove[i] = heightAbove[i - 1] + height[i - 1];
            height[i] = book.tall[i];
            gapsOnPage[i] = gapsOnPage[i - 1];
        }

        private void goOn(Book book, int i) {
            tierOnPage[i] = tierOnPage[i - 1];
            place[i] = place[i - 1] + 1;
            heightAbove[i] = heightAbove[i - 1];
            height[i] = Math.max(height[i - 1], book.tall[i]);
            // A taller panel opens the same gap more below each panel ahead in the tier.
            int opened = (height[i] - height[i - 1]) * place[i];
            gapsOnPage[i] = gapsOnPage[i - 1] + opened + height[i] - book.tall[i];
        }

        /** RAGGED of the page on which panel i is the last one. */
        int raggedOfPage(Book book, int i) {
            if (book.isSpread(i)) {
                return 0;
            }
            int room = book.high - heightAbove[i] - height[i];
            return room * room + gapsOnPage[i];
        }

        /** For a layout that goes, poured whole. */
        void numberPages(Book book) {
            pages = 0;
            blanks = 0;
            tiers = 0;
            ragged = 0;
            for (int i = 0; i < book.panels; i++) {
                if (figures[i] == BEGINS_PAGE) {
                    turnPage(book, i);
                } else if (i > 0) {
                    page[i] = page[i - 1];
                }
                if (figures[i] != GOES_ON) {
                    tiers++;
                }
                if (i + 1 == book.panels || figures[i + 1] == BEGINS_PAGE) {
                    ragged += raggedOfPage(book, i);
                }
            }
        }

        private void turnPage(Book book, int i) {
            if (book.wantsLeftPage(i) && pages % 2 == 0) {
                pages++;
                blanks++;
                ragged += book.high * book.high;
            }
            page[i] = pages;
            pages += book.isSpread(i) ? 2 : 1;
        }

        int width(Book book, int panel) {
            if (book.isSpread(panel)) {
                return 2 * PAGE_WIDTH;
            }
            int end = panel + 1;
            while (end < book.panels && figures[end] == GOES_ON) {
                end++;
            }
            int from = panel - place[panel];
            return book.tierWidth(from, end - from, place[panel]);
        }
    }

    /**
     * Finds BEST from the last panel back. What the panels from i on can do, when i begins a page,
     * hangs only on i and on whether the next page is a left one, so each such case is held once,
     * in slot 2 * i, and 1 more if the next page is a left one.
     */
    private static final class Search {
        private static final int SLOTS = 2 * (MOST_PANELS + 1);

        private final Layout onPage = new Layout();
        private final int[] ways = new int[SLOTS];
        private final int[] fewest = new int[SLOTS];
        private final int[] waysInFewest = new int[SLOTS];
        private final int[] least = new int[SLOTS];
        // Two bits for each figure, the first one highest: the lesser number is the first layout.
        private final int[] firstLayout = new int[SLOTS];

        int goes() {
            return ways[0];
        }

        int fewestPages() {
            return fewest[0];
        }

        int leastRagged() {
            return least[0];
        }

        int goesInFewest() {
            return waysInFewest[0];
        }

        int figure(Book book, int i) {
            return firstLayout[0] >> 2 * (book.panels - 1 - i) & 3;
        }

        void run(Book book) {
            int end = 2 * book.panels;
            clear(end);
            ways[end] = 1;
            waysInFewest[end] = 1;
            ways[end + 1] = 1;
            waysInFewest[end + 1] = 1;
            for (int i = book.panels - 1; i >= 0; i--) {
                clear(2 * i);
                if (onPage.whyNot(book, i, BEGINS_PAGE) == 0) {
                    onPage.put(book, i, BEGINS_PAGE);
                    growPage(book, i, i, BEGINS_PAGE);
                }
            }
        }

        private void clear(int slot) {
            for (int s = slot; s < slot + 2; s++) {
                ways[s] = 0;
                fewest[s] = 0;
                waysInFewest[s] = 0;
                least[s] = 0;
                firstLayout[s] = 0;
            }
        }

        /** The page from panel begin on has its panels up to last; digits are their figures. */
        private void growPage(Book book, int begin, int last, int digits) {
            endPage(book, begin, last, digits);
            int next = last + 1;
            if (next >= book.panels) {
                return;
            }
            for (int figure = GOES_ON; figure <= BEGINS_TIER; figure++) {
                if (onPage.whyNot(book, next, figure) == 0) {
                    onPage.put(book, next, figure);
                    growPage(book, begin, next, digits << 2 | figure);
                }
            }
        }

        private void endPage(Book book, int begin, int last, int digits) {
            int raggedHere = onPage.raggedOfPage(book, last);
            int layoutHere = digits << 2 * (book.panels - 1 - last);
            for (int left = 0; left <= 1; left++) {
                int blank = left == 0 && book.wantsLeftPage(begin) ? 1 : 0;
                int taken = blank + (book.isSpread(begin) ? 2 : 1);
                int rest = 2 * (last + 1) + (left + taken) % 2;
                int ragged = raggedHere + blank * book.high * book.high + least[rest];
                offer(2 * begin + left, rest, taken + fewest[rest], ragged, layoutHere | firstLayout[rest]);
            }
        }

        private void offer(int slot, int rest, int pages, int ragged, int digits) {
            if (ways[rest] == 0) {
                return;
            }
            boolean fewer = ways[slot] == 0 || pages < fewest[slot];
            boolean asFew = !fewer && pages == fewest[slot];
            boolean evener = asFew && (ragged < least[slot] || ragged == least[slot] && digits < firstLayout[slot]);
            ways[slot] += ways[rest];
            if (fewer) {
                waysInFewest[slot] = waysInFewest[rest];
            } else if (asFew) {
                waysInFewest[slot] += waysInFewest[rest];
            }
            if (fewer || evener) {
                fewest[slot] = pages;
                least[slot] = ragged;
                firstLayout[slot] = digits;
            }
        }
    }

    /** Balloons set into the cells of a panel, a cell being 4 times its row and its column. */
    private static final class Setting {
        final int[] cell = new int[MOST_BALLOONS];
        final int[] first = new int[MOST_BALLOONS];
        int found = 0;
        int leastDeep = 0;
        int foundLeastDeep = 0;

        void findGood(Book book, int panel) {
            found = 0;
            leastDeep = 0;
            foundLeastDeep = 0;
            setFrom(book, panel, 0);
        }

        private void setFrom(Book book, int panel, int i) {
            if (i >= book.balloons[panel] || i >= MOST_BALLOONS) {
                keep(i);
                return;
            }
            for (int c = 0; c < ROWS * COLUMNS; c++) {
                cell[i] = c;
                if (fits(book, panel, i)) {
                    setFrom(book, panel, i + 1);
                }
            }
        }

        private void keep(int balloons) {
            // Rows never go back from balloon to balloon, so the last one is the deepest.
            int deep = balloons == 0 ? 0 : cell[balloons - 1] / COLUMNS + 1;
            found++;
            if (found == 1 || deep < leastDeep) {
                leastDeep = deep;
                foundLeastDeep = 0;
                System.arraycopy(cell, 0, first, 0, balloons);
            }
            if (deep == leastDeep) {
                foundLeastDeep++;
            }
        }

        /** Whether balloon i is well set, those ahead of it being well set already. */
        boolean fits(Book book, int panel, int i) {
            int own = book.speakerColumn(panel, i);
            int row = cell[i] / COLUMNS;
            int column = cell[i] % COLUMNS;
            // A greater cell is just a greater column in the same row, or a greater row.
            if (i > 0 && cell[i] <= cell[i - 1] || Math.abs(column - own) > 1) {
                return false;
            }
            for (int ahead = 0; ahead < i; ahead++) {
                int other = book.speakerColumn(panel, ahead);
                boolean sameRow = cell[ahead] / COLUMNS == row;
                if (sameRow && other > own || !sameRow && column == other) {
                    return false;
                }
            }
            return true;
        }
    }
}
