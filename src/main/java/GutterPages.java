import java.util.ArrayList;

/**
 * A comic house: panels in rows, balloons in panels, pages in tongues, spreads in signatures, and a
 * reader. A call that changes where things lie changes the order first, lays the pages for a trial,
 * and then either keeps what the trial found or puts the order back and throws.
 */
public final class GutterPages {
    private static final int MOST_PAGES = 10;
    private static final int MOST_PANELS = 50;
    private static final int MOST_BALLOONS = 80;
    private static final int PANELS_OF_A_PAGE = 8;
    private static final int BALLOONS_OF_A_PANEL = 4;
    private static final int FACES_OF_A_PANEL = 2;
    private static final int PAGE_WIDTH = 24;
    private static final int PAGE_HEIGHT = 50;
    private static final int ROW_HEIGHT = 16;
    private static final int BALLOON_WIDTH = 6;
    private static final int TONGUES = 3;
    private static final int TONGUE_FROM_RIGHT = 1;
    private static final int FIRST_GROWTH = 100;
    private static final int MOST_KEPT = 512;

    private final ArrayList<Page> book = new ArrayList<>();
    private final ArrayList<Panel> everyPanel = new ArrayList<>();
    private final ArrayList<Balloon> everyBalloon = new ArrayList<>();
    private final Layout layout = new Layout();
    private final Reader reader = new Reader();

    public GutterPages() {
    }

    // ---- pages and panels

    public int page() throws IllegalStateException {
        if (book.size() >= MOST_PAGES) {
            throw new IllegalStateException("there are all pages");
        }
        Page made = new Page(book.size());
        book.add(made);
        return made.number;
    }

    public int panel(int page, int place, int weight, int width, int height)
            throws IndexOutOfBoundsException, IllegalArgumentException, IllegalStateException {
        Page home = needPage(page);
        needPlace(place, home.row.size());
        needWithin(weight, 1, 9);
        needWithin(width, 4, PAGE_WIDTH);
        needWithin(height, 3, 12);
        if (home.row.size() >= PANELS_OF_A_PAGE || everyPanel.size() >= MOST_PANELS) {
            throw new IllegalStateException("there is no room for a panel");
        }
        Panel made = new Panel(everyPanel.size(), home, weight, width, height);
        home.putIn(place, made);
        if (!layout.tryPage(home)) {
            home.takeOut(place);
            throw new IllegalStateException("the page cannot be laid");
        }
        everyPanel.add(made);
        home.keepTrial();
        return made.number;
    }

    public int movePanel(int panel, int place) throws IndexOutOfBoundsException, IllegalStateException {
        Panel moved = needPanel(panel);
        Page home = moved.home;
        needPlace(place, home.row.size() - 1);
        int from = home.indexOf(moved);
        home.takeOut(from);
        home.putIn(place, moved);
        if (!layout.tryPage(home) || !answersComeLater()) {
            home.takeOut(place);
            home.putIn(from, moved);
            throw new IllegalStateException("the page cannot be laid or read");
        }
        return home.keepTrial();
    }

    public int cutPanel(int panel) throws IndexOutOfBoundsException, IllegalStateException {
        Panel cut = needPanel(panel);
        Page home = cut.home;
        if (isAnsweredFromElsewhere(cut)) {
            throw new IllegalStateException("a balloon of it is answered");
        }
        Panel heir = readBehind(cut);
        if (heir == null) {
            heir = readAheadOf(cut);
        }
        int place = home.indexOf(cut);
        home.takeOut(place);
        if (!layout.tryPage(home)) {
            home.putIn(place, cut);
            throw new IllegalStateException("the page cannot be laid");
        }
        home.keepTrial();
        cut.leave();
        reader.forget(cut, heir);
        return cut.row.size();
    }

    public int face(int panel, int column, int width, int height)
            throws IndexOutOfBoundsException, IllegalArgumentException, IllegalStateException {
        Panel home = needPanel(panel);
        needWithin(column, 0, PAGE_WIDTH - 1);
        needWithin(width, 1, PAGE_WIDTH);
        needWithin(height, 1, 8);
        if (home.faces.size() >= FACES_OF_A_PANEL) {
            throw new IllegalStateException("the panel has all faces");
        }
        home.faces.add(new Face(column, width, height));
        if (!layout.tryPage(home.home)) {
            home.dropLastFace();
            throw new IllegalStateException("the page cannot be laid");
        }
        home.home.keepTrial();
        return home.laid.height;
    }

    // ---- balloons

    public int balloon(int panel, int place, int letters)
            throws IndexOutOfBoundsException, IllegalArgumentException, IllegalStateException {
        Panel home = needPanel(panel);
        needPlace(place, home.row.size());
        needWithin(letters, 1, 60);
        if (home.row.size() >= BALLOONS_OF_A_PANEL || everyBalloon.size() >= MOST_BALLOONS) {
            throw new IllegalStateException("there is no room for a balloon");
        }
        Balloon made = new Balloon(everyBalloon.size(), home, letters);
        home.putIn(place, made);
        if (!layout.tryPage(home.home)) {
            home.takeOut(place);
            throw new IllegalStateException("the page cannot be laid");
        }
        everyBalloon.add(made);
        home.home.keepTrial();
        return made.number;
    }

    public void moveBalloon(int balloon, int panel, int place)
            throws IndexOutOfBoundsException, IllegalStateException {
        Balloon moved = needBalloon(balloon);
        Panel to = needPanel(panel);
        Panel from = moved.home;
        needPlace(place, to == from ? to.row.size() - 1 : to.row.size());
        if (to != from && to.row.size() >= BALLOONS_OF_A_PANEL) {
            throw new IllegalStateException("the panel has all balloons");
        }
        int old = from.indexOf(moved);
        moved.goTo(to, place);
        if (!layout.tryPage(from.home) || !layout.tryPage(to.home) || !answersComeLater()) {
            moved.goTo(from, old);
            throw new IllegalStateException("a page cannot be laid or read");
        }
        from.home.keepTrial();
        to.home.keepTrial();
    }

    public int cutBalloon(int balloon) throws IndexOutOfBoundsException, IllegalStateException {
        Balloon cut = needBalloon(balloon);
        Panel home = cut.home;
        if (isAnswered(cut)) {
            throw new IllegalStateException("the balloon is answered");
        }
        int place = home.indexOf(cut);
        home.takeOut(place);
        if (!layout.tryPage(home.home)) {
            home.putIn(place, cut);
            throw new IllegalStateException("the page cannot be laid");
        }
        home.home.keepTrial();
        cut.gone = true;
        return home.number;
    }

    public int answer(int balloon, int other) throws IndexOutOfBoundsException, IllegalStateException {
        Balloon asking = needBalloon(balloon);
        Balloon asked = other == -1 ? null : needBalloon(other);
        if (asked != null && asked.readingKey() >= asking.readingKey()) {
            throw new IllegalStateException("the other one is not read before");
        }
        Balloon before = asking.answered;
        asking.answered = asked;
        return before == null ? -1 : before.number;
    }

    // ---- tongues

    public int translate(int page, int tongue)
            throws IndexOutOfBoundsException, IllegalArgumentException, IllegalStateException {
        Page home = needPage(page);
        needWithin(tongue, 0, TONGUES - 1);
        int old = home.tongue;
        home.tongue = tongue;
        if (!layout.tryPage(home)) {
            home.tongue = old;
            throw new IllegalStateException("the page cannot be laid");
        }
        return home.keepTrial();
    }

    public int setGrowth(int tongue, int growth) throws IllegalArgumentException, IllegalStateException {
        needWithin(tongue, 0, TONGUES - 1);
        needWithin(growth, 50, 250);
        int old = layout.growth[tongue];
        layout.growth[tongue] = growth;
        for (int i = 0; i < book.size(); i++) {
            if (!layout.tryPage(book.get(i))) {
                layout.growth[tongue] = old;
                throw new IllegalStateException("a page cannot be laid");
            }
        }
        int changed = 0;
        for (int i = 0; i < book.size(); i++) {
            changed += book.get(i).keepTrial();
        }
        return changed;
    }

    // ---- where things lie

    public int pages() {
        return book.size();
    }

    public int rows(int page) throws IndexOutOfBoundsException {
        return needPage(page).rowCount;
    }

    public int panels(int page) throws IndexOutOfBoundsException {
        return needPage(page).row.size();
    }

    public int panelAt(int page, int place) throws IndexOutOfBoundsException {
        Page home = needPage(page);
        needPlace(place, home.row.size() - 1);
        return home.row.get(place).number;
    }

    public int lies(int panel, int what) throws IndexOutOfBoundsException, IllegalArgumentException {
        Panel asked = needPanel(panel);
        needWithin(what, 0, 4);
        return what == 0 ? asked.rowNumber : asked.laid.measure(what);
    }

    public int floats(int balloon, int what) throws IndexOutOfBoundsException, IllegalArgumentException {
        Balloon asked = needBalloon(balloon);
        needWithin(what, 0, 4);
        return what == 0 ? asked.home.number : asked.laid.measure(what);
    }

    public int cell(int panel, int column, int line) throws IndexOutOfBoundsException {
        Panel home = needPanel(panel);
        needPlace(column, home.laid.width - 1);
        needPlace(line, home.laid.height - 1);
        for (int i = 0; i < home.row.size(); i++) {
            if (home.row.get(i).laid.holds(column, line)) {
                return home.row.get(i).number;
            }
        }
        return home.hasFaceAt(column, line) ? -2 : -1;
    }

    // ---- the order of reading

    public int balloons() {
        int count = 0;
        for (int i = 0; i < everyBalloon.size(); i++) {
            if (!everyBalloon.get(i).gone) {
                count++;
            }
        }
        return count;
    }

    public int read(int place) throws IndexOutOfBoundsException {
        Balloon found = place < 0 ? null : balloonReadAt(place);
        if (found == null) {
            throw new IndexOutOfBoundsException("no such place");
        }
        return found.number;
    }

    public int placeOf(int balloon) throws IndexOutOfBoundsException {
        return countReadBefore(needBalloon(balloon));
    }

    public int placeByPairs(int balloon) throws IndexOutOfBoundsException {
        Balloon asked = needBalloon(balloon);
        int count = 0;
        for (int i = 0; i < everyBalloon.size(); i++) {
            Balloon one = everyBalloon.get(i);
            if (!one.gone && one.liesBefore(asked)) {
                count++;
            }
        }
        return count;
    }

    public int depth(int balloon) throws IndexOutOfBoundsException {
        Balloon waiting = needBalloon(balloon);
        int count = 0;
        for (Balloon one = waiting.answered; one != null && count < MOST_BALLOONS; one = one.answered) {
            count++;
        }
        return count;
    }

    // ---- spreads and signatures

    public boolean spread(int page) throws IndexOutOfBoundsException, IllegalStateException {
        Page first = needPage(page);
        needPlace(page, book.size() - 2);
        if (isSpread(page - 1) || isSpread(page + 1)) {
            throw new IllegalStateException("a page is of another spread");
        }
        first.joined = !first.joined;
        return first.joined;
    }

    public int leaves(int leaves) throws IllegalArgumentException {
        needSignature(leaves);
        int last = book.size() - 1;
        return last < 0 ? 0 : roundedUp(leafOf(last, leaves) + 1, leaves) * leaves;
    }

    public int leaf(int page, int leaves) throws IndexOutOfBoundsException, IllegalArgumentException {
        needPage(page);
        needSignature(leaves);
        return leafOf(page, leaves);
    }

    public int beside(int page, int leaves) throws IndexOutOfBoundsException, IllegalArgumentException {
        needPage(page);
        needSignature(leaves);
        int own = leafOf(page, leaves);
        int within = remainder(own, leaves);
        int wanted = own - within + leaves - 1 - within;
        for (int i = 0; i < book.size(); i++) {
            if (leafOf(i, leaves) == wanted) {
                return i;
            }
        }
        return -1;
    }

    public int sheet(int page, int leaves) throws IndexOutOfBoundsException, IllegalArgumentException {
        needPage(page);
        needSignature(leaves);
        int within = remainder(leafOf(page, leaves), leaves);
        // Half of the lesser leaf, times 2, and the remainder are together that leaf itself.
        return Math.min(within, leaves - 1 - within);
    }

    // ---- the reader

    public int open() {
        reader.beginAt(readBehind(null));
        return numberOf(reader.at);
    }

    public int forth() {
        Panel next = reader.at == null ? null : readBehind(reader.at);
        if (next != null) {
            reader.goTo(next);
        }
        return numberOf(next);
    }

    public int jump(int panel) throws IndexOutOfBoundsException {
        reader.goTo(needPanel(panel));
        return reader.keptCount;
    }

    public int back() {
        return reader.goBack() ? numberOf(reader.at) : -1;
    }

    public int here() {
        return numberOf(reader.at);
    }

    // ---- what the calls need

    private Page needPage(int number) {
        if (number < 0 || number >= book.size()) {
            throw new IndexOutOfBoundsException("no such page");
        }
        return book.get(number);
    }

    private Panel needPanel(int number) {
        if (number < 0 || number >= everyPanel.size() || everyPanel.get(number).gone) {
            throw new IndexOutOfBoundsException("no such panel");
        }
        return everyPanel.get(number);
    }

    private Balloon needBalloon(int number) {
        if (number < 0 || number >= everyBalloon.size() || everyBalloon.get(number).gone) {
            throw new IndexOutOfBoundsException("no such balloon");
        }
        return everyBalloon.get(number);
    }

    private static void needPlace(int place, int last) {
        if (place < 0 || place > last) {
            throw new IndexOutOfBoundsException("no such place");
        }
    }

    private static void needWithin(int value, int least, int most) {
        if (value < least || value > most) {
            throw new IllegalArgumentException("out of range");
        }
    }

    private static void needSignature(int size) {
        if (size != 4 && size != 8 && size != 12 && size != 16) {
            throw new IllegalArgumentException("no such signature");
        }
    }

    // ---- what is read when

    private Balloon balloonReadAt(int place) {
        int rest = place;
        for (int i = 0; i < book.size(); i++) {
            Page page = book.get(i);
            for (int j = 0; j < page.row.size(); j++) {
                Panel panel = page.row.get(j);
                if (rest >= 0 && rest < panel.row.size()) {
                    return panel.row.get(rest);
                }
                rest -= panel.row.size();
            }
        }
        return null;
    }

    private int countReadBefore(Balloon asked) {
        int key = asked.readingKey();
        int count = 0;
        for (int i = 0; i < everyBalloon.size(); i++) {
            Balloon one = everyBalloon.get(i);
            if (!one.gone && one.readingKey() < key) {
                count++;
            }
        }
        return count;
    }

    private boolean answersComeLater() {
        for (int i = 0; i < everyBalloon.size(); i++) {
            Balloon one = everyBalloon.get(i);
            if (!one.gone && one.answered != null && one.answered.readingKey() >= one.readingKey()) {
                return false;
            }
        }
        return true;
    }

    private boolean isAnswered(Balloon asked) {
        for (int i = 0; i < everyBalloon.size(); i++) {
            Balloon one = everyBalloon.get(i);
            if (!one.gone && one.answered == asked) {
                return true;
            }
        }
        return false;
    }

    private boolean isAnsweredFromElsewhere(Panel asked) {
        for (int i = 0; i < everyBalloon.size(); i++) {
            Balloon one = everyBalloon.get(i);
            if (!one.gone && one.home != asked && one.answered != null && one.answered.home == asked) {
                return true;
            }
        }
        return false;
    }

    /** Behind nowhere, which is null, the first panel of all is read. */
    private Panel readBehind(Panel panel) {
        Panel last = null;
        for (int i = 0; i < book.size(); i++) {
            Page page = book.get(i);
            for (int j = 0; j < page.row.size(); j++) {
                if (last == panel) {
                    return page.row.get(j);
                }
                last = page.row.get(j);
            }
        }
        return null;
    }

    private Panel readAheadOf(Panel panel) {
        Panel last = null;
        for (int i = 0; i < book.size(); i++) {
            Page page = book.get(i);
            for (int j = 0; j < page.row.size(); j++) {
                if (page.row.get(j) == panel) {
                    return last;
                }
                last = page.row.get(j);
            }
        }
        return null;
    }

    private static int numberOf(Panel panel) {
        return panel == null ? -1 : panel.number;
    }

    // ---- what lies on which leaf

    private boolean isSpread(int first) {
        return first >= 0 && first < book.size() && book.get(first).joined;
    }

    private int leafOf(int page, int size) {
        int next = 0;
        for (int i = 0; i < page; i++) {
            next = leafOfSpread(i, next, size) + 1;
        }
        return leafOfSpread(page, next, size);
    }

    /** The second page of a spread follows the first one anyway, so only a first one can be put off. */
    private int leafOfSpread(int page, int next, int size) {
        if (!isSpread(page)) {
            return next;
        }
        int blank = size / 2 - 1 - remainder(next, size);
        return blank < 0 ? next + blank + size : next + blank;
    }

    private static int roundedUp(int whole, int part) {
        return part > 0 ? (whole + part - 1) / part : 0;
    }

    private static int remainder(int whole, int part) {
        return part > 0 ? whole % part : 0;
    }

    /** Columns counted from the side from which is read, told from the left, or the other way round. */
    private static int turned(int at, int width, int room, boolean fromRight) {
        return fromRight ? room - at - width : at;
    }

    /** Where a thing lies in what it lies in. */
    private static final class Box {
        int left;
        int top;
        int width;
        int height;

        void set(Box other) {
            left = other.left;
            top = other.top;
            width = other.width;
            height = other.height;
        }

        boolean isLike(Box other) {
            return left == other.left && top == other.top && width == other.width && height == other.height;
        }

        boolean holds(int column, int line) {
            return column >= left && column < left + width && line >= top && line < top + height;
        }

        int measure(int what) {
            switch (what) {
                case 1:
                    return left;
                case 2:
                    return top;
                case 3:
                    return width;
                default:
                    return height;
            }
        }
    }

    private static final class Page {
        final int number;
        final ArrayList<Panel> row = new ArrayList<>();
        int tongue;
        int rowCount;
        int triedRowCount;
        boolean joined;

        Page(int number) {
            this.number = number;
        }

        boolean isFromRight() {
            return tongue == TONGUE_FROM_RIGHT;
        }

        int indexOf(Panel panel) {
            for (int i = 0; i < row.size(); i++) {
                if (row.get(i) == panel) {
                    return i;
                }
            }
            return -1;
        }

        void takeOut(int place) {
            if (place >= 0 && place < row.size()) {
                row.remove(place);
            }
        }

        void putIn(int place, Panel panel) {
            if (place >= 0 && place <= row.size()) {
                row.add(place, panel);
            }
        }

        /** Tells how many panels lie otherwise than before. */
        int keepTrial() {
            int changed = 0;
            for (int i = 0; i < row.size(); i++) {
                Panel panel = row.get(i);
                if (!panel.laid.isLike(panel.tried)) {
                    changed++;
                }
                panel.keepTrial();
            }
            rowCount = triedRowCount;
            return changed;
        }
    }

    private static final class Panel {
        final int number;
        final Page home;
        final int weight;
        final int leastWidth;
        final int leastHeight;
        final ArrayList<Face> faces = new ArrayList<>();
        final ArrayList<Balloon> row = new ArrayList<>();
        final Box laid = new Box();
        final Box tried = new Box();
        int rowNumber;
        int triedRowNumber;
        boolean gone;

        Panel(int number, Page home, int weight, int leastWidth, int leastHeight) {
            this.number = number;
            this.home = home;
            this.weight = weight;
            this.leastWidth = leastWidth;
            this.leastHeight = leastHeight;
        }

        int indexOf(Balloon balloon) {
            for (int i = 0; i < row.size(); i++) {
                if (row.get(i) == balloon) {
                    return i;
                }
            }
            return -1;
        }

        void takeOut(int place) {
            if (place >= 0 && place < row.size()) {
                row.remove(place);
            }
        }

        void putIn(int place, Balloon balloon) {
            if (place >= 0 && place <= row.size()) {
                row.add(place, balloon);
            }
        }

        void dropLastFace() {
            if (faces.size() > 0) {
                faces.remove(faces.size() - 1);
            }
        }

        boolean hasFaceAt(int column, int line) {
            for (int i = 0; i < faces.size(); i++) {
                Face face = faces.get(i);
                if (column >= face.column && column < face.column + face.width
                        && line >= laid.height - face.height) {
                    return true;
                }
            }
            return false;
        }

        void keepTrial() {
            laid.set(tried);
            rowNumber = triedRowNumber;
            for (int i = 0; i < row.size(); i++) {
                row.get(i).laid.set(row.get(i).tried);
            }
        }

        void leave() {
            gone = true;
            for (int i = 0; i < row.size(); i++) {
                row.get(i).gone = true;
            }
        }
    }

    private static final class Face {
        final int column;
        final int width;
        final int height;

        Face(int column, int width, int height) {
            this.column = column;
            this.width = width;
            this.height = height;
        }
    }

    private static final class Balloon {
        final int number;
        final int letters;
        final Box laid = new Box();
        final Box tried = new Box();
        Panel home;
        Balloon answered;
        boolean gone;

        Balloon(int number, Panel home, int letters) {
            this.number = number;
            this.home = home;
            this.letters = letters;
        }

        void goTo(Panel panel, int place) {
            home.takeOut(home.indexOf(this));
            panel.putIn(place, this);
            home = panel;
        }

        /** Of two balloons the one with the lesser key is read before the other one. */
        int readingKey() {
            Page page = home.home;
            int place = page.number * PANELS_OF_A_PAGE + page.indexOf(home);
            return place * BALLOONS_OF_A_PANEL + home.indexOf(this);
        }

        boolean liesBefore(Balloon other) {
            Panel its = other.home;
            Page page = home.home;
            boolean fromRight = page.isFromRight();
            if (page != its.home) {
                return page.number < its.home.number;
            }
            if (home.rowNumber != its.rowNumber) {
                return home.rowNumber < its.rowNumber;
            }
            if (home != its) {
                return isNearer(home.laid, its.laid, PAGE_WIDTH, fromRight);
            }
            if (laid.top != other.laid.top) {
                return laid.top < other.laid.top;
            }
            return isNearer(laid, other.laid, home.laid.width, fromRight);
        }

        private static boolean isNearer(Box one, Box other, int room, boolean fromRight) {
            return turned(one.left, one.width, room, fromRight)
                    < turned(other.left, other.width, room, fromRight);
        }
    }

    /** Lays pages for a trial: what lies already stays where it lies until the trial is kept. */
    private static final class Layout {
        final int[] growth = new int[TONGUES];

        /** A number for each line of a panel, in it a bit for each column that is taken. */
        private final int[] taken = new int[ROW_HEIGHT];

        Layout() {
            for (int i = 0; i < growth.length; i++) {
                growth[i] = FIRST_GROWTH;
            }
        }

        boolean tryPage(Page page) {
            int first = 0;
            int width = 0;
            int top = 0;
            page.triedRowCount = 0;
            for (int i = 0; i < page.row.size(); i++) {
                width += page.row.get(i).leastWidth;
                if (i + 1 < page.row.size() && width + page.row.get(i + 1).leastWidth <= PAGE_WIDTH) {
                    continue;
                }
                shareWidth(page, first, i, PAGE_WIDTH - width);
                int height = heightOfRow(page, first, i);
                if (height == 0 || top + height > PAGE_HEIGHT) {
                    return false;
                }
                putRow(page, first, i, top);
                page.triedRowCount++;
                top += height;
                first = i + 1;
                width = 0;
            }
            return true;
        }

        private static void shareWidth(Page page, int first, int last, int spare) {
            int weights = 0;
            for (int i = first; i <= last; i++) {
                weights += page.row.get(i).weight;
            }
            int rest = spare;
            for (int i = first; i <= last; i++) {
                Panel panel = page.row.get(i);
                int more = weights > 0 ? spare * panel.weight / weights : 0;
                panel.tried.width = panel.leastWidth + more;
                rest -= more;
            }
            for (int i = first; i <= last && i < first + rest; i++) {
                page.row.get(i).tried.width++;
            }
        }

        /**
         * A height that fits may have one above it that does not, as a balloon that comes to stand
         * further ahead can be in the way of the next one: so each height is tried with all panels.
         */
        private int heightOfRow(Page page, int first, int last) {
            int least = 0;
            for (int i = first; i <= last; i++) {
                least = Math.max(least, page.row.get(i).leastHeight);
            }
            for (int height = least; height <= ROW_HEIGHT; height++) {
                if (fitsInto(height, page, first, last)) {
                    return height;
                }
            }
            return 0;
        }

        private boolean fitsInto(int height, Page page, int first, int last) {
            for (int i = first; i <= last; i++) {
                Panel panel = page.row.get(i);
                panel.tried.height = height;
                if (!placeBalloons(panel)) {
                    return false;
                }
            }
            return true;
        }

        private static void putRow(Page page, int first, int last, int top) {
            int at = 0;
            for (int i = first; i <= last; i++) {
                Panel panel = page.row.get(i);
                panel.triedRowNumber = page.triedRowCount;
                panel.tried.top = top;
                panel.tried.left = turned(at, panel.tried.width, PAGE_WIDTH, page.isFromRight());
                at += panel.tried.width;
            }
        }

        private boolean placeBalloons(Panel panel) {
            Box room = panel.tried;
            boolean fromRight = panel.home.isFromRight();
            takeFaces(panel);
            int line = 0;
            int step = 0;
            for (int i = 0; i < panel.row.size(); i++) {
                Balloon balloon = panel.row.get(i);
                Box box = balloon.tried;
                int letters = roundedUp(balloon.letters * growthOf(panel.home), 100);
                box.width = Math.min(letters, Math.min(BALLOON_WIDTH, room.width));
                box.height = roundedUp(letters, box.width);
                if (!findSpot(box, line, step, room, fromRight)) {
                    return false;
                }
                take(box.left, box.width, box.top, box.top + box.height);
                line = box.top;
                step = turned(box.left, box.width, room.width, fromRight) + 1;
            }
            return true;
        }

        private int growthOf(Page page) {
            return page.tongue >= 0 && page.tongue < growth.length ? growth[page.tongue] : FIRST_GROWTH;
        }

        private void takeFaces(Panel panel) {
            int height = panel.tried.height;
            for (int i = 0; i < taken.length; i++) {
                taken[i] = 0;
            }
            for (int i = 0; i < panel.faces.size(); i++) {
                Face face = panel.faces.get(i);
                take(face.column, face.width, height - face.height, height);
            }
        }

        private void take(int left, int width, int top, int bottom) {
            for (int i = Math.max(top, 0); i < bottom && i < taken.length; i++) {
                taken[i] |= bitsOf(left, width);
            }
        }

        /** Tries the spots in their order, from a line and the step of the first one in it on. */
        private boolean findSpot(Box box, int line, int step, Box room, boolean fromRight) {
            for (int top = line; top + box.height <= room.height; top++) {
                int blocked = takenBetween(top, top + box.height);
                for (int at = top == line ? step : 0; at + box.width <= room.width; at++) {
                    int left = turned(at, box.width, room.width, fromRight);
                    if ((blocked & bitsOf(left, box.width)) == 0) {
                        box.left = left;
                        box.top = top;
                        return true;
                    }
                }
            }
            return false;
        }

        private int takenBetween(int top, int bottom) {
            int bits = 0;
            for (int i = Math.max(top, 0); i < bottom && i < taken.length; i++) {
                bits |= taken[i];
            }
            return bits;
        }

        /** Columns of a face beyond the panel do no harm: no balloon is looked for there. */
        private static int bitsOf(int left, int width) {
            return ((1 << width) - 1) << left;
        }
    }

    /** Keeps the panels from which the reader went, the last one at the end. */
    private static final class Reader {
        private final Panel[] kept = new Panel[MOST_KEPT];
        int keptCount;
        Panel at;

        void beginAt(Panel first) {
            at = first;
            keptCount = 0;
        }

        /** More panels than calls are promised cannot be kept, so no more are. */
        void goTo(Panel panel) {
            if (at != null && keptCount >= 0 && keptCount < kept.length) {
                kept[keptCount] = at;
                keptCount++;
            }
            at = panel;
        }

        boolean goBack() {
            if (keptCount <= 0 || keptCount > kept.length) {
                return false;
            }
            keptCount--;
            at = kept[keptCount];
            return true;
        }

        void forget(Panel cut, Panel heir) {
            int count = 0;
            for (int i = 0; i < keptCount && i < kept.length; i++) {
                if (kept[i] != cut) {
                    kept[count] = kept[i];
                    count++;
                }
            }
            keptCount = count;
            if (at == cut) {
                at = heir;
            }
        }
    }
}
