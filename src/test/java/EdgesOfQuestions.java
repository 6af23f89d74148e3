/** Promises 13 to 24: where things lie, and the order of reading. */
final class EdgesOfQuestions extends Edges {
    private static final String CELL = "Returns what is at a cell of a panel: -1 nothing, -2 a face, otherwise the"
        + " balloon.";
    private static final String PAIRS = "By where they lie, of two balloons of one page that one is read before the"
        + " other whose panel is in a higher row; in one row that whose panel lies nearer to the side from which the"
        + " page reads; in one panel that whose spot is read before.";
    private static final String NO_BALLOON = "Throws `IndexOutOfBoundsException` if there is no such balloon there";
    private static final String NO_PAGE = "Throws `IndexOutOfBoundsException` if there is no such page";
    private static final String NO_PANEL = "Throws `IndexOutOfBoundsException` if there is no such panel there";

    private EdgesOfQuestions() {
    }

    // ---- pages

    @Says(at = "Promise 13", value = "Returns how many pages there are.")
    static void countsPages() {
        for (int count = 0; count <= 10; count++) {
            due(count, withPages(count).pages());
        }
        GutterPages x = withPages(10);
        fails(STATE, () -> x.page());
        due(10, x.pages());
    }

    @Says(at = "Promise 14", value = "Returns how many rows a page has.")
    static void countsRows() {
        due(0, withPages(1).rows(0));
        due(1, withWidths(4).rows(0));
        due(8, withRows(3, 3, 3, 3, 3, 3, 3, 3).rows(0));
        GutterPages x = withWidths(12, 13);
        due(2, x.rows(0));
        x.cutPanel(1);
        due(1, x.rows(0));
        x.cutPanel(0);
        due(0, x.rows(0));
    }

    @Says(at = "Promise 14", value = NO_PAGE)
    static void noSuchPageWithRows() {
        refused(INDEX, () -> withPages(2), x -> x.rows(-1), x -> x.rows(2), x -> x.rows(LOW), x -> x.rows(HIGH));
        refused(INDEX, () -> withPages(10), x -> x.rows(10));
        due(0, withPages(10).rows(9));
    }

    @Says(at = "Promise 15", value = "Returns how many panels a page has.")
    static void countsPanels() {
        for (int count = 1; count <= 8; count++) {
            due(count, withPanels(count).panels(0));
        }
        GutterPages x = withPanels(9);
        due("8 1", x.panels(0) + " " + x.panels(1));
        x.cutPanel(8);
        due(0, x.panels(1));
    }

    @Says(at = "Promise 15", value = NO_PAGE)
    static void noSuchPageWithPanels() {
        refused(INDEX, () -> withPages(2), x -> x.panels(-1), x -> x.panels(2), x -> x.panels(LOW),
            x -> x.panels(HIGH));
        refused(INDEX, () -> withPages(10), x -> x.panels(10));
        due(0, withPages(10).panels(9));
    }

    @Says(at = "Promise 16", value = "Returns a panel of a page, by its place.")
    static void panelsByTheirPlace() {
        GutterPages x = withPanels(8);
        for (int place = 0; place < 8; place++) {
            due(place, x.panelAt(0, place));
        }
        x.cutPanel(0);
        due("1 2 3 4 5 6 7", panelsOf(x, 0));
    }

    @Says(at = "Promise 16", value = "Throws `IndexOutOfBoundsException` if there is no such page, or it has no such"
        + " panel")
    static void noSuchPanelOfAPage() {
        refused(INDEX, () -> withPanels(9), x -> x.panelAt(0, -1), x -> x.panelAt(0, 8), x -> x.panelAt(1, 1),
            x -> x.panelAt(0, LOW), x -> x.panelAt(0, HIGH));
        refused(INDEX, () -> withPages(1), x -> x.panelAt(0, 0));
    }

    @Says(at = "Promise 16", value = "Throws `IndexOutOfBoundsException` if there is no such page, or it has no such"
        + " panel")
    static void noSuchPageOfAPanel() {
        refused(INDEX, () -> withPanels(9), x -> x.panelAt(-1, 0), x -> x.panelAt(2, 0), x -> x.panelAt(LOW, 0),
            x -> x.panelAt(HIGH, 0));
    }

    // ---- panels, balloons, cells

    @Says(at = "Promise 17", value = "`what`: 0 the row, from 0; 1 how far its left side is from that of the page; 2"
        + " how far its top is from that of the page; 3 its width; 4 its height")
    static void whatIsToldOfAPanel() {
        GutterPages x = withPages(1);
        x.panel(0, 0, 1, 24, 7);
        x.panel(0, 1, 1, 10, 3);
        x.panel(0, 2, 1, 11, 5);
        due("0 0 0 24 7", x.lies(0, 0) + " " + x.lies(0, 1) + " " + x.lies(0, 2) + " " + x.lies(0, 3) + " "
            + x.lies(0, 4));
        due("1 12 7 12 5", x.lies(2, 0) + " " + x.lies(2, 1) + " " + x.lies(2, 2) + " " + x.lies(2, 3) + " "
            + x.lies(2, 4));
    }

    @Says(at = "Promise 17", value = NO_PANEL)
    static void noSuchPanelThatLies() {
        refused(INDEX, () -> withWidths(4, 4), x -> x.lies(-1, 0), x -> x.lies(2, 0), x -> x.lies(LOW, 0),
            x -> x.lies(HIGH, 0), x -> x.lies(2, 5), x -> x.lies(-1, -1));
        refused(INDEX, () -> withPanels(50), x -> x.lies(50, 0));
    }

    @Says(at = "Promise 17", value = "Throws `IllegalArgumentException` if what is out of range")
    static void noSuchThingOfAPanel() {
        refused(ARGUMENT, () -> withWidths(4), x -> x.lies(0, -1), x -> x.lies(0, 5), x -> x.lies(0, LOW),
            x -> x.lies(0, HIGH));
    }

    @Says(at = "Promise 18", value = "`what`: 0 the panel; 1 its leftmost column; 2 its top line; 3 its width; 4 its"
        + " height")
    static void whatIsToldOfABalloon() {
        GutterPages x = withWidths(24, 11, 13);
        x.balloon(2, 0, 12);
        x.balloon(2, 1, 7);
        x.balloon(2, 2, 13);
        x.balloon(2, 3, 2);
        due("2 0 2 6 3", x.floats(2, 0) + " " + x.floats(2, 1) + " " + x.floats(2, 2) + " " + x.floats(2, 3) + " "
            + x.floats(2, 4));
        due("2 6 2 2 1", x.floats(3, 0) + " " + x.floats(3, 1) + " " + x.floats(3, 2) + " " + x.floats(3, 3) + " "
            + x.floats(3, 4));
        x.translate(0, 1);
        due("2 7 2 6 3", x.floats(2, 0) + " " + x.floats(2, 1) + " " + x.floats(2, 2) + " " + x.floats(2, 3) + " "
            + x.floats(2, 4));
    }

    @Says(at = "Promise 18", value = NO_BALLOON)
    static void noSuchBalloonThatFloats() {
        refused(INDEX, () -> withLetters(1, 1), x -> x.floats(-1, 0), x -> x.floats(2, 0), x -> x.floats(LOW, 0),
            x -> x.floats(HIGH, 0), x -> x.floats(2, 5), x -> x.floats(-1, -1));
        refused(INDEX, () -> withBalloons(80), x -> x.floats(80, 0));
    }

    @Says(at = "Promise 18", value = "Throws `IllegalArgumentException` if what is out of range")
    static void noSuchThingOfABalloon() {
        refused(ARGUMENT, () -> withLetters(1), x -> x.floats(0, -1), x -> x.floats(0, 5), x -> x.floats(0, LOW),
            x -> x.floats(0, HIGH));
    }

    @Says(at = "Promise 19", value = CELL)
    static void whatIsAtACell() {
        GutterPages x = withWidths(12, 12);
        x.balloon(1, 0, 1);
        x.balloon(1, 1, 13);
        x.face(1, 9, 2, 2);
        due("011111100000".length(), x.lies(1, 3));
        due("0111111...../.111111..##./.111111..##.", cellsOf(x, 1));
        due("-1 0 1 -2", x.cell(1, 0, 1) + " " + x.cell(1, 0, 0) + " " + x.cell(1, 1, 0) + " " + x.cell(1, 9, 1));
        due("............/............/............", cellsOf(x, 0));
    }

    @Says(at = "Promise 19", value = CELL)
    static void theCornersOfABalloonAreItsOwn() {
        GutterPages x = withRows(5);
        x.face(0, 0, 2, 5);
        x.balloon(0, 0, 13);
        due("0 0 0 0", x.cell(0, 2, 0) + " " + x.cell(0, 7, 0) + " " + x.cell(0, 2, 2) + " " + x.cell(0, 7, 2));
        due("-2 -1 -1 -1", x.cell(0, 1, 0) + " " + x.cell(0, 8, 0) + " " + x.cell(0, 2, 3) + " " + x.cell(0, 7, 3));
    }

    @Says(at = "Promise 19", value = "`column`: 0 for the leftmost one")
    static void columnsOfACell() {
        GutterPages x = withWidths(5, 4, 4);
        x.face(0, 0, 1, 1);
        x.face(0, 8, 1, 1);
        x.translate(0, 1);
        due("-2 -1 -2", x.cell(0, 0, 2) + " " + x.cell(0, 4, 2) + " " + x.cell(0, 8, 2));
        refused(INDEX, () -> withWidths(5, 4, 4), y -> y.cell(0, -1, 0), y -> y.cell(0, 9, 0), y -> y.cell(1, 8, 0),
            y -> y.cell(2, 7, 0), y -> y.cell(0, LOW, 0), y -> y.cell(0, HIGH, 0));
    }

    @Says(at = "Promise 19", value = "`line`: 0 for the top one")
    static void linesOfACell() {
        GutterPages x = withLetters(24);
        due("0 0 -1", x.cell(0, 0, 0) + " " + x.cell(0, 5, 3) + " " + x.cell(0, 6, 3));
        refused(INDEX, () -> withLetters(24), y -> y.cell(0, 0, -1), y -> y.cell(0, 0, 4), y -> y.cell(0, 0, LOW),
            y -> y.cell(0, 0, HIGH));
    }

    @Says(at = "Promise 19", value = "Throws `IndexOutOfBoundsException` if there is no such panel there, or it has no"
        + " such cell")
    static void noSuchPanelWithCells() {
        refused(INDEX, () -> withWidths(4, 20), x -> x.cell(-1, 0, 0), x -> x.cell(2, 0, 0), x -> x.cell(LOW, 0, 0),
            x -> x.cell(HIGH, 0, 0), x -> x.cell(0, 4, 0), x -> x.cell(1, 20, 2), x -> x.cell(1, 19, 3));
        due(-1, withWidths(4, 20).cell(1, 19, 2));
    }

    // ---- reading

    @Says(at = "Promise 20", value = "Returns how many balloons are there.")
    static void countsBalloonsThatAreThere() {
        due(0, new GutterPages().balloons());
        due(80, withBalloons(80).balloons());
        GutterPages x = withBalloons(9);
        due(4, x.cutPanel(0));
        due(5, x.balloons());
        x.cutBalloon(8);
        due(4, x.balloons());
        x.cutPanel(1);
        due(0, x.balloons());
    }

    @Says(at = "Promise 21", value = "`place`: from 0")
    static void placesOfReading() {
        GutterPages x = withBalloons(80);
        for (int place = 0; place < 80; place++) {
            due(place, x.read(place));
        }
    }

    @Says(at = "Promise 21", value = "Throws `IndexOutOfBoundsException` if there is no such place")
    static void noSuchPlaceOfReading() {
        refused(INDEX, () -> withBalloons(6), x -> x.read(-1), x -> x.read(6), x -> x.read(LOW), x -> x.read(HIGH));
        refused(INDEX, () -> withBalloons(80), x -> x.read(80));
        refused(INDEX, () -> withPanels(3), x -> x.read(0));
        refused(INDEX, () -> {
            GutterPages x = withBalloons(6);
            x.cutBalloon(2);
            return x;
        }, x -> x.read(5));
    }

    @Says(at = "Terms", value = "Panels are read in the order of pages, of a page in its order; balloons in the order"
        + " of panels, of a panel in its order.")
    static void readInTheOrderOfPagesPanelsAndBalloons() {
        GutterPages x = withPages(4);
        x.panel(3, 0, 1, 24, 3);
        x.panel(1, 0, 1, 12, 3);
        x.panel(1, 0, 1, 12, 3);
        x.panel(0, 0, 1, 24, 3);
        x.balloon(0, 0, 1);
        x.balloon(1, 0, 1);
        x.balloon(2, 0, 1);
        x.balloon(2, 0, 1);
        x.balloon(3, 0, 1);
        due("4 3 2 1 0", readingOf(x));
        for (int balloon = 0; balloon < 5; balloon++) {
            due(4 - balloon, x.placeOf(balloon));
            due(4 - balloon, x.placeByPairs(balloon));
        }
        x.translate(1, 1);
        due("4 3 2 1 0", readingOf(x));
        x.movePanel(1, 0);
        due("4 1 3 2 0", readingOf(x));
    }

    @Says(at = "Promise 22", value = "Returns at which place a balloon is read.")
    static void firstAndLastPlace() {
        GutterPages x = withBalloons(80);
        due("0 79", x.placeOf(0) + " " + x.placeOf(79));
        x.cutBalloon(0);
        due("0 78", x.placeOf(1) + " " + x.placeOf(79));
        due(0, withLetters(1).placeOf(0));
    }

    @Says(at = "Promise 22", value = NO_BALLOON)
    static void noSuchBalloonAtAPlace() {
        refused(INDEX, () -> withLetters(1, 1), x -> x.placeOf(-1), x -> x.placeOf(2), x -> x.placeOf(LOW),
            x -> x.placeOf(HIGH));
        refused(INDEX, () -> withBalloons(80), x -> x.placeOf(80));
    }

    @Says(at = "Promise 23", value = "Returns the same by all pairs: how many others are read before it by where they"
        + " lie, those of pages ahead included.")
    static void firstAndLastByPairs() {
        GutterPages x = withBalloons(80);
        due("0 79", x.placeByPairs(0) + " " + x.placeByPairs(79));
        x.cutBalloon(0);
        due("0 78", x.placeByPairs(1) + " " + x.placeByPairs(79));
        due(0, withLetters(1).placeByPairs(0));
        GutterPages pages = withPages(3);
        pages.panel(2, 0, 1, 24, 3);
        pages.panel(0, 0, 1, 24, 3);
        pages.balloon(0, 0, 1);
        pages.balloon(1, 0, 1);
        due("1 0", pages.placeByPairs(0) + " " + pages.placeByPairs(1));
    }

    @Says(at = "Promise 23", value = NO_BALLOON)
    static void noSuchBalloonByPairs() {
        refused(INDEX, () -> withLetters(1, 1), x -> x.placeByPairs(-1), x -> x.placeByPairs(2),
            x -> x.placeByPairs(LOW), x -> x.placeByPairs(HIGH));
        refused(INDEX, () -> withBalloons(80), x -> x.placeByPairs(80));
    }

    @Says(at = "Reading", value = PAIRS)
    static void aHigherRowIsReadBefore() {
        GutterPages x = withWidths(12, 12, 24);
        x.balloon(2, 0, 1);
        x.balloon(1, 0, 60);
        for (int tongue = 0; tongue < 3; tongue++) {
            x.translate(0, tongue);
            due("1 0", x.placeByPairs(0) + " " + x.placeByPairs(1));
        }
    }

    @Says(at = "Reading", value = PAIRS)
    static void theNearerPanelIsReadBefore() {
        GutterPages x = withWidths(4, 4, 4);
        x.balloon(2, 0, 1);
        x.balloon(1, 0, 1);
        x.balloon(0, 0, 60);
        for (int tongue = 0; tongue < 3; tongue++) {
            x.translate(0, tongue);
            due("2 1 0", x.placeByPairs(0) + " " + x.placeByPairs(1) + " " + x.placeByPairs(2));
        }
    }

    @Says(at = "Reading", value = PAIRS)
    static void theSpotThatIsReadBefore() {
        GutterPages x = withWidths(8, 16);
        x.balloon(0, 0, 12);
        x.balloon(0, 1, 6);
        x.balloon(0, 2, 1);
        x.balloon(0, 0, 2);
        for (int tongue = 0; tongue < 3; tongue++) {
            x.translate(0, tongue);
            due("1 2 3 0", x.placeByPairs(0) + " " + x.placeByPairs(1) + " " + x.placeByPairs(2) + " "
                + x.placeByPairs(3));
        }
    }

    // ---- who waits for whom

    @Says(at = "Promise 24", value = "Returns how many balloons a balloon waits for: the one that it answers, the one"
        + " that that answers, and so on.")
    static void waitsForNoneUpToAll() {
        GutterPages x = withBalloons(80);
        due(0, x.depth(79));
        for (int i = 1; i < 80; i++) {
            x.answer(i, i - 1);
            due(i, x.depth(i));
        }
        due(0, x.depth(0));
        x.answer(40, -1);
        due("39 0 39", x.depth(39) + " " + x.depth(40) + " " + x.depth(79));
        x.answer(79, 0);
        due(1, x.depth(79));
    }

    @Says(at = "Promise 24", value = "Returns how many balloons a balloon waits for: the one that it answers, the one"
        + " that that answers, and so on.")
    static void severalMayWaitForOne() {
        GutterPages x = withLetters(1, 1, 1, 1);
        x.answer(1, 0);
        x.answer(2, 0);
        x.answer(3, 0);
        due("0 1 1 1", x.depth(0) + " " + x.depth(1) + " " + x.depth(2) + " " + x.depth(3));
        fails(STATE, () -> x.cutBalloon(0));
        x.cutBalloon(1);
        fails(STATE, () -> x.cutBalloon(0));
        x.cutBalloon(2);
        fails(STATE, () -> x.cutBalloon(0));
        x.cutBalloon(3);
        due(0, x.cutBalloon(0));
    }

    @Says(at = "Promise 24", value = NO_BALLOON)
    static void noSuchBalloonThatWaits() {
        refused(INDEX, () -> withLetters(1, 1), x -> x.depth(-1), x -> x.depth(2), x -> x.depth(LOW),
            x -> x.depth(HIGH));
        refused(INDEX, () -> withBalloons(80), x -> x.depth(80));
    }
}
