/** Promises 1 to 6: pages, panels and faces. */
final class EdgesOfPages extends Edges {
    private EdgesOfPages() {
    }

    // ---- a new object, and pages

    @Says(at = "Promise 1", value = "Begins without pages.")
    static void beginsEmpty() {
        GutterPages x = new GutterPages();
        due(0, x.pages());
        due(0, x.balloons());
        due(-1, x.here());
        due("0 0 0 0", sizesOf(x));
    }

    @Says(at = "Promise 1", value = "Begins without pages.")
    static void beginsWithNothingToNumber() {
        refused(INDEX, GutterPages::new, x -> x.panel(0, 0, 1, 4, 3), x -> x.movePanel(0, 0), x -> x.cutPanel(0),
            x -> x.face(0, 0, 1, 1), x -> x.balloon(0, 0, 1), x -> moveBalloon(x, 0, 0, 0), x -> x.cutBalloon(0),
            x -> x.answer(0, -1), x -> x.answer(0, 0), x -> x.translate(0, 0), x -> x.rows(0), x -> x.panels(0),
            x -> x.panelAt(0, 0), x -> x.lies(0, 0), x -> x.floats(0, 0), x -> x.cell(0, 0, 0), x -> x.read(0),
            x -> x.placeOf(0), x -> x.placeByPairs(0), x -> x.depth(0), x -> x.spread(0), x -> x.leaf(0, 4),
            x -> x.beside(0, 4), x -> x.sheet(0, 4), x -> x.jump(0));
    }

    @Says(at = "Promise 1", value = "Begins without pages.")
    static void beginsApartFromOthers() {
        GutterPages x = withLetters(60);
        x.setGrowth(0, 150);
        x.open();
        GutterPages other = new GutterPages();
        due("0 0 -1 0", other.pages() + " " + other.balloons() + " " + other.here() + " " + other.leaves(4));
        due(0, other.page());
        due(0, other.panel(0, 0, 1, 24, 3));
        due(0, other.balloon(0, 0, 60));
        due(10, other.floats(0, 4));
    }

    @Says(at = "Terms", value = "Pages are numbered from 0 as they are made, at most 10; their numbers are their"
        + " order in the book.")
    static void tenPagesInTheirOrder() {
        GutterPages x = withPages(10);
        for (int page = 9; page >= 0; page--) {
            due(9 - page, x.panel(page, 0, 1, 24, 3));
            due(9 - page, x.balloon(9 - page, 0, 1));
        }
        due("9 8 7 6 5 4 3 2 1 0", readingOf(x));
        due("0 1 2 3 4 5 6 7 8 9", leavesOf(x, 4));
        due(9, x.open());
        for (int panel = 8; panel >= 0; panel--) {
            due(panel, x.forth());
        }
        due(-1, x.forth());
    }

    @Says(at = "Terms", value = "A page has a tongue, 0 at first, and a row of at most 8 panels.")
    static void pagesAreOfTongueZeroAtFirst() {
        GutterPages x = withWidths(4, 5);
        x.setGrowth(1, 250);
        x.setGrowth(2, 250);
        x.translate(0, 1);
        x.page();
        x.panel(1, 0, 1, 4, 3);
        x.panel(1, 1, 1, 5, 3);
        x.balloon(2, 0, 4);
        due("[0 0 0 12 3][0 12 0 12 3]", boxesOf(x, 2, 3));
        due("[2 0 0 4 1]", spotsOf(x, 0));
    }

    @Says(at = "Promise 2", value = "Makes an empty page, behind all.")
    static void aPageIsEmptyAtFirst() {
        GutterPages x = withLetters(5);
        due(1, x.page());
        due("0 0", x.rows(1) + " " + x.panels(1));
        due(1, x.leaf(1, 4));
        x.panel(1, 0, 1, 24, 3);
        x.balloon(1, 0, 5);
        due("0 1", readingOf(x));
    }

    @Says(at = "Promise 2", value = "Returns its number.")
    static void pagesAreNumberedUpToNine() {
        GutterPages x = new GutterPages();
        for (int i = 0; i < 10; i++) {
            due(i, x.page());
            due(i + 1, x.pages());
        }
    }

    @Says(at = "Promise 2", value = "Throws `IllegalStateException` if there are 10")
    static void noEleventhPage() {
        taken(9, () -> withPages(9), x -> x.page());
        refused(STATE, () -> withPages(10), x -> x.page());
    }

    // ---- panels are made

    @Says(at = "Promise 3", value = "`place`: of the panels of the page, 0 to how many it has")
    static void placesOfANewPanel() {
        GutterPages x = withPages(1);
        due(0, x.panel(0, 0, 1, 4, 3));
        due(1, x.panel(0, 1, 1, 4, 3));
        due(2, x.panel(0, 0, 1, 4, 3));
        due(3, x.panel(0, 2, 1, 4, 3));
        due(4, x.panel(0, 4, 1, 4, 3));
        due("2 0 3 1 4", panelsOf(x, 0));
    }

    @Says(at = "Promise 3", value = "`weight`: 1 to 9")
    static void weightsOfANewPanel() {
        taken(0, () -> withPages(1), x -> x.panel(0, 0, 1, 4, 3), x -> x.panel(0, 0, 9, 4, 3));
        refused(ARGUMENT, () -> withPages(1), x -> x.panel(0, 0, 0, 4, 3), x -> x.panel(0, 0, 10, 4, 3),
            x -> x.panel(0, 0, -1, 4, 3), x -> x.panel(0, 0, LOW, 4, 3), x -> x.panel(0, 0, HIGH, 4, 3));
    }

    @Says(at = "Promise 3", value = "`width`: its least width, 4 to 24")
    static void widthsOfANewPanel() {
        taken(1, () -> withPages(1), x -> x.panel(0, 0, 1, 4, 3) + x.rows(0),
            x -> x.panel(0, 0, 1, 24, 3) + x.rows(0));
        refused(ARGUMENT, () -> withPages(1), x -> x.panel(0, 0, 1, 3, 3), x -> x.panel(0, 0, 1, 25, 3),
            x -> x.panel(0, 0, 1, 0, 3), x -> x.panel(0, 0, 1, -4, 3), x -> x.panel(0, 0, 1, LOW, 3),
            x -> x.panel(0, 0, 1, HIGH, 3));
    }

    @Says(at = "Promise 3", value = "`height`: its least height, 3 to 12")
    static void heightsOfANewPanel() {
        taken("[0 0 0 24 3]", () -> withRows(3), x -> Check.boxOf(x, 0));
        taken("[0 0 0 24 12]", () -> withRows(12), x -> Check.boxOf(x, 0));
        refused(ARGUMENT, () -> withPages(1), x -> x.panel(0, 0, 1, 4, 2), x -> x.panel(0, 0, 1, 4, 13),
            x -> x.panel(0, 0, 1, 4, 0), x -> x.panel(0, 0, 1, 4, -3), x -> x.panel(0, 0, 1, 4, LOW),
            x -> x.panel(0, 0, 1, 4, HIGH));
    }

    @Says(at = "Promise 3", value = "Returns its number.")
    static void panelsAreNumberedAsTheyAreMade() {
        GutterPages x = withPages(2);
        due(0, x.panel(1, 0, 1, 4, 3));
        due(1, x.panel(0, 0, 1, 4, 3));
        due(0, x.cutPanel(0));
        due(2, x.panel(1, 0, 1, 4, 3));
        fails(INDEX, () -> x.panel(1, 2, 1, 4, 3));
        fails(ARGUMENT, () -> x.panel(1, 0, 0, 4, 3));
        due(3, x.panel(1, 0, 1, 4, 3));
    }

    @Says(at = "Promise 3", value = "Throws `IndexOutOfBoundsException` if there is no such page or place")
    static void noSuchPageForAPanel() {
        refused(INDEX, () -> withPages(2), x -> x.panel(-1, 0, 1, 4, 3), x -> x.panel(2, 0, 1, 4, 3),
            x -> x.panel(LOW, 0, 1, 4, 3), x -> x.panel(HIGH, 0, 1, 4, 3));
        refused(INDEX, () -> withPages(10), x -> x.panel(10, 0, 1, 4, 3));
    }

    @Says(at = "Promise 3", value = "Throws `IndexOutOfBoundsException` if there is no such page or place")
    static void noSuchPlaceForAPanel() {
        refused(INDEX, () -> withPages(1), x -> x.panel(0, -1, 1, 4, 3), x -> x.panel(0, 1, 1, 4, 3));
        refused(INDEX, () -> withWidths(4, 4, 4), x -> x.panel(0, -1, 1, 4, 3), x -> x.panel(0, 4, 1, 4, 3),
            x -> x.panel(0, LOW, 1, 4, 3), x -> x.panel(0, HIGH, 1, 4, 3));
    }

    @Says(at = "Promise 3", value = "Throws `IllegalArgumentException` if weight, width or height is out of range")
    static void anyOfThreeOutOfRange() {
        refused(ARGUMENT, () -> withWidths(4), x -> x.panel(0, 0, 10, 24, 12), x -> x.panel(0, 1, 9, 25, 12),
            x -> x.panel(0, 1, 9, 24, 13), x -> x.panel(0, 1, 0, 3, 2));
    }

    @Says(at = "Promise 3", value = "Throws `IllegalStateException` if the page has 8 panels, there were 50, or the"
        + " page cannot be laid then")
    static void noNinthPanelOfAPage() {
        taken(7, () -> withPanels(7), x -> x.panel(0, 7, 1, 4, 3));
        refused(STATE, () -> withPanels(8), x -> x.panel(0, 0, 1, 4, 3), x -> x.panel(0, 8, 1, 4, 3));
        GutterPages x = withPanels(8);
        x.page();
        due(8, x.panel(1, 0, 1, 4, 3));
        x.cutPanel(3);
        due(9, x.panel(0, 7, 1, 4, 3));
        fails(STATE, () -> x.panel(0, 8, 1, 4, 3));
    }

    @Says(at = "Promise 3", value = "Throws `IllegalStateException` if the page has 8 panels, there were 50, or the"
        + " page cannot be laid then")
    static void noFiftyFirstPanelEver() {
        taken(49, () -> withPanels(49), x -> x.panel(6, 1, 1, 4, 3));
        refused(STATE, () -> withPanels(50), x -> x.panel(6, 0, 1, 4, 3), x -> x.panel(6, 2, 1, 4, 3));
        refused(STATE, () -> withPanelsCut(50), x -> x.panel(0, 0, 1, 4, 3), x -> x.panel(6, 0, 1, 4, 3));
    }

    private static GutterPages withPanelsCut(int count) {
        GutterPages x = withPanels(count);
        for (int i = 0; i < count; i++) {
            x.cutPanel(i);
        }
        return x;
    }

    @Says(at = "Promise 3", value = "Throws `IllegalStateException` if the page has 8 panels, there were 50, or the"
        + " page cannot be laid then")
    static void noPanelThatMakesThePageTooHigh() {
        taken(4, () -> withRows(12, 12, 12, 11), x -> x.panel(0, 4, 1, 24, 3), x -> x.panel(0, 0, 1, 24, 3));
        taken("[4 0 47 24 3]", () -> withRows(12, 12, 12, 11, 3), x -> Check.boxOf(x, 4));
        refused(STATE, () -> withRows(12, 12, 12, 11), x -> x.panel(0, 4, 1, 24, 4), x -> x.panel(0, 0, 1, 24, 4),
            x -> x.panel(0, 2, 1, 24, 12));
        refused(STATE, () -> withRows(12, 12, 12, 11, 3), x -> x.panel(0, 5, 1, 4, 3));
    }

    @Says(at = "Promise 3", value = "Throws `IllegalStateException` if the page has 8 panels, there were 50, or the"
        + " page cannot be laid then")
    static void noPanelThatMakesARowTooHigh() {
        refused(STATE, Houses::withWideBalloons, x -> x.panel(0, 0, 1, 4, 3), x -> x.panel(0, 1, 1, 4, 3));
        taken(3, Houses::withWideBalloons, x -> x.panel(0, 0, 1, 5, 3), x -> x.panel(0, 1, 1, 5, 3));
    }

    @Says(at = "Terms", value = "Panels are numbered from 0 as they are made, at most 50 ever;")
    static void numbersOfPanelsAreNeverGivenAgain() {
        GutterPages x = withPages(1);
        for (int i = 0; i < 50; i++) {
            due(i, x.panel(0, 0, 1, 4, 3));
            due(i, x.panelAt(0, 0));
            due(0, x.cutPanel(i));
        }
        fails(STATE, () -> x.panel(0, 0, 1, 4, 3));
        due(0, x.panels(0));
    }

    @Says(at = "Terms", value = "When a call throws, nothing has changed; of several exceptions it is the first one of"
        + " the throws clause.")
    static void firstExceptionOfPanel() {
        refused(INDEX, () -> withPanels(8), x -> x.panel(1, 0, 0, 4, 3), x -> x.panel(-1, 8, 1, 4, 3),
            x -> x.panel(0, 9, 1, 4, 3), x -> x.panel(0, -1, 0, 3, 2), x -> x.panel(0, 9, 1, 4, 13));
        refused(ARGUMENT, () -> withPanels(8), x -> x.panel(0, 8, 0, 4, 3), x -> x.panel(0, 8, 1, 25, 3),
            x -> x.panel(0, 8, 1, 4, 13));
        refused(ARGUMENT, () -> withPanels(50), x -> x.panel(6, 0, 10, 4, 3));
        refused(INDEX, () -> withPanels(50), x -> x.panel(6, 3, 1, 4, 3), x -> x.panel(7, 0, 10, 4, 3));
    }

    // ---- panels are moved

    @Says(at = "Promise 4", value = "Moves a panel to another place of its page; those between move by one.")
    static void thoseBetweenMoveByOne() {
        GutterPages x = withWidths(4, 4, 4, 4, 4);
        x.movePanel(0, 4);
        due("1 2 3 4 0", panelsOf(x, 0));
        x.movePanel(0, 0);
        due("0 1 2 3 4", panelsOf(x, 0));
        x.movePanel(1, 3);
        due("0 2 3 1 4", panelsOf(x, 0));
        x.movePanel(1, 2);
        due("0 2 1 3 4", panelsOf(x, 0));
        x.movePanel(4, 1);
        due("0 4 2 1 3", panelsOf(x, 0));
    }

    @Says(at = "Promise 4", value = "`place`: the place that it has then")
    static void placesOfAMovedPanel() {
        taken("0 1 2 3", () -> withWidths(4, 4, 4, 4), x -> last(x.movePanel(2, 2), panelsOf(x, 0)));
        for (int place = 0; place < 4; place++) {
            GutterPages x = withWidths(4, 4, 4, 4);
            x.movePanel(1, place);
            due(1, x.panelAt(0, place));
        }
        taken(0, () -> withWidths(24), x -> x.movePanel(0, 0));
    }

    @Says(at = "Promise 4", value = "Returns how many panels of the page lie elsewhere on the page (by left side and"
        + " top; which row that is does not count), or are of another width or height, than before.")
    static void noneLiesElsewhere() {
        taken(0, () -> withWidths(4, 5, 6, 7), x -> x.movePanel(0, 0), x -> x.movePanel(3, 3));
    }

    @Says(at = "Promise 4", value = "Returns how many panels of the page lie elsewhere on the page (by left side and"
        + " top; which row that is does not count), or are of another width or height, than before.")
    static void eachWayToLieElsewhereCounts() {
        taken(2, () -> withRows(3, 3, 3), x -> x.movePanel(0, 1));
        taken(2, () -> withWidths(8, 8, 8), x -> x.movePanel(2, 1));
        taken(3, () -> withRows(3, 4, 5), x -> x.movePanel(0, 2));
        taken(8, () -> withRows(3, 3, 3, 3, 3, 3, 3, 3), x -> x.movePanel(0, 7));
        taken("2 [0 0 0 9 3][0 17 0 7 3][0 9 0 8 3]", () -> withWidths(5, 4, 4),
            x -> x.movePanel(1, 2) + " " + boxesOf(x, 0, 1, 2));
        taken(8, () -> withPanels(8), x -> x.movePanel(0, 7));
    }

    @Says(at = "Promise 4", value = "Returns how many panels of the page lie elsewhere on the page (by left side and"
        + " top; which row that is does not count), or are of another width or height, than before.")
    static void anotherWidthAloneCounts() {
        // The first panel stays where it is, 8 wide and then 12; the last one lies as before, with 24.
        GutterPages x = withWidths(8, 8, 8, 17);
        due("[0 0 0 8 3][0 8 0 8 3][0 16 0 8 3][1 0 3 24 3]", boxesOf(x, 0, 1, 2, 3));
        due(3, x.movePanel(3, 2));
        due("[0 0 0 12 3][0 12 0 12 3][2 0 6 24 3][1 0 3 24 3]", boxesOf(x, 0, 1, 2, 3));
    }

    @Says(at = "Promise 4", value = "Returns how many panels of the page lie elsewhere on the page (by left side and"
        + " top; which row that is does not count), or are of another width or height, than before.")
    static void anotherHeightAloneCounts() {
        GutterPages x = withPages(1);
        x.panel(0, 0, 1, 12, 3);
        x.panel(0, 1, 1, 12, 3);
        x.panel(0, 2, 1, 12, 6);
        due("[0 0 0 12 3][0 12 0 12 3][1 0 3 24 6]", boxesOf(x, 0, 1, 2));
        due(3, x.movePanel(1, 2));
        due("[0 0 0 12 6][1 0 6 24 3][0 12 0 12 6]", boxesOf(x, 0, 1, 2));
    }

    @Says(at = "Promise 4", value = "Returns how many panels of the page lie elsewhere on the page (by left side and"
        + " top; which row that is does not count), or are of another width or height, than before.")
    static void anotherRowAloneDoesNotCount() {
        // Rows of 3, 3 and 3 above the last panel become rows of 6 and 3: it is in another one, 9 from the top.
        GutterPages x = withWidths(12, 24, 12, 24);
        for (int i = 0; i < 3; i++) {
            x.balloon(0, i, 18);
        }
        due("[3 0 9 24 3]", boxesOf(x, 3));
        due(3, x.movePanel(2, 1));
        due("[0 0 0 12 6][1 0 6 24 3][0 12 0 12 6][2 0 9 24 3]", boxesOf(x, 0, 1, 2, 3));
    }

    @Says(at = "Promise 4", value = "Throws `IndexOutOfBoundsException` if there is no such panel there, or its page"
        + " has no such place")
    static void noSuchPanelToMove() {
        refused(INDEX, () -> withWidths(4, 4), x -> x.movePanel(-1, 0), x -> x.movePanel(2, 0),
            x -> x.movePanel(LOW, 0), x -> x.movePanel(HIGH, 0));
        refused(INDEX, () -> {
            GutterPages x = withWidths(4, 4);
            x.cutPanel(0);
            return x;
        }, x -> x.movePanel(0, 0));
    }

    @Says(at = "Promise 4", value = "Throws `IndexOutOfBoundsException` if there is no such panel there, or its page"
        + " has no such place")
    static void noSuchPlaceToMoveTo() {
        refused(INDEX, () -> withWidths(4, 4, 4), x -> x.movePanel(0, -1), x -> x.movePanel(0, 3),
            x -> x.movePanel(2, 3), x -> x.movePanel(0, LOW), x -> x.movePanel(0, HIGH));
        refused(INDEX, () -> withWidths(24), x -> x.movePanel(0, 1));
        refused(INDEX, () -> withPanels(8), x -> x.movePanel(0, 8));
        taken(0, () -> withPanels(8), x -> last(x.movePanel(0, 7), x.panelAt(0, 7)));
    }

    @Says(at = "Promise 4", value = "Throws `IllegalStateException` if the page cannot be laid then, or a balloon would"
        + " be read before the one that it answers")
    static void noMoveToAPageThatCannotBeLaid() {
        refused(STATE, Houses::withWideBalloons, x -> x.movePanel(2, 0), x -> x.movePanel(2, 1),
            x -> x.movePanel(1, 0));
        taken(3, Houses::withWideBalloons, x -> x.movePanel(0, 2));
        refused(STATE, () -> withSharedRow(4), x -> x.movePanel(0, 2), x -> x.movePanel(1, 2), x -> x.movePanel(0, 4));
        taken(4, () -> withSharedRow(3), x -> x.movePanel(0, 2));
        taken(2, () -> withSharedRow(4), x -> x.movePanel(0, 1));
    }

    /** Rows of 11 (of two panels), 12, 12 and 12; the first panel, alone in a row, is of this height. */
    private static GutterPages withSharedRow(int height) {
        GutterPages x = withPages(1);
        x.panel(0, 0, 1, 12, height);
        x.panel(0, 1, 1, 12, 11);
        x.panel(0, 2, 1, 24, 12);
        x.panel(0, 3, 1, 24, 12);
        x.panel(0, 4, 1, 24, 12);
        return x;
    }

    @Says(at = "Promise 4", value = "Throws `IllegalStateException` if the page cannot be laid then, or a balloon would"
        + " be read before the one that it answers")
    static void noMoveThatPutsAnAnswerAhead() {
        refused(STATE, EdgesOfPages::withAnAnswer, x -> x.movePanel(0, 2), x -> x.movePanel(2, 0));
        taken(2, EdgesOfPages::withAnAnswer, x -> x.movePanel(0, 1), x -> x.movePanel(2, 1));
        GutterPages x = withAnAnswer();
        x.movePanel(0, 1);
        fails(STATE, () -> x.movePanel(0, 2));
        x.answer(1, -1);
        due(2, x.movePanel(0, 2));
        due("1 0", readingOf(x));
    }

    /** Three rows; a balloon of the last one answers one of the first one. */
    private static GutterPages withAnAnswer() {
        GutterPages x = withRows(3, 3, 3);
        x.balloon(0, 0, 5);
        x.balloon(2, 0, 5);
        x.answer(1, 0);
        return x;
    }

    @Says(at = "Terms", value = "When a call throws, nothing has changed; of several exceptions it is the first one of"
        + " the throws clause.")
    static void firstExceptionOfMovePanel() {
        refused(INDEX, EdgesOfPages::withAnAnswer, x -> x.movePanel(0, 3), x -> x.movePanel(2, -1),
            x -> x.movePanel(3, 0));
    }

    // ---- panels are cut

    @Says(at = "Promise 5", value = "Cuts a panel with its balloons.")
    static void balloonsOfACutPanelAreGone() {
        GutterPages x = withLetters(1, 2, 3, 4);
        x.panel(0, 1, 1, 24, 3);
        x.balloon(1, 0, 5);
        due(4, x.cutPanel(0));
        due("4", readingOf(x));
        for (int i = 0; i < 4; i++) {
            int gone = i;
            fails(INDEX, () -> x.floats(gone, 0));
            fails(INDEX, () -> x.cutBalloon(gone));
            fails(INDEX, () -> x.answer(4, gone));
        }
        due(5, x.balloon(1, 0, 1));
    }

    @Says(at = "Promise 5", value = "Returns how many balloons are cut.")
    static void countsTheBalloonsThatAreCut() {
        taken(0, () -> withWidths(24), x -> x.cutPanel(0));
        taken(1, () -> withLetters(1), x -> x.cutPanel(0));
        taken(4, () -> withLetters(1, 1, 1, 1), x -> x.cutPanel(0));
        taken(3, () -> withLetters(1, 1, 1, 1), x -> last(x.cutBalloon(2), x.cutPanel(0)));
    }

    @Says(at = "Promise 5", value = "Throws `IndexOutOfBoundsException` if there is no such panel there")
    static void noSuchPanelToCut() {
        refused(INDEX, () -> withWidths(4, 4), x -> x.cutPanel(-1), x -> x.cutPanel(2), x -> x.cutPanel(LOW),
            x -> x.cutPanel(HIGH));
        refused(INDEX, () -> {
            GutterPages x = withWidths(4, 4);
            x.cutPanel(1);
            return x;
        }, x -> x.cutPanel(1));
    }

    @Says(at = "Promise 5", value = "Throws `IllegalStateException` if a balloon of another panel answers one of its"
        + " balloons, or the page cannot be laid then")
    static void noCutOfAnAnsweredPanel() {
        refused(STATE, EdgesOfPages::withAnAnswer, x -> x.cutPanel(0));
        taken(1, EdgesOfPages::withAnAnswer, x -> x.cutPanel(2), x -> last(x.answer(1, -1), x.cutPanel(0)),
            x -> last(x.cutPanel(2), x.cutPanel(0)), x -> last(x.cutBalloon(1), x.cutPanel(0)));
    }

    @Says(at = "Promise 5", value = "Throws `IllegalStateException` if a balloon of another panel answers one of its"
        + " balloons, or the page cannot be laid then")
    static void cutOfAPanelThatAnswersItself() {
        taken(3, () -> {
            GutterPages x = withLetters(1, 1, 1);
            x.answer(1, 0);
            x.answer(2, 1);
            return x;
        }, x -> x.cutPanel(0));
        refused(STATE, () -> {
            GutterPages x = withLetters(1, 1, 1);
            x.page();
            x.panel(1, 0, 1, 24, 3);
            x.balloon(1, 0, 1);
            x.answer(1, 0);
            x.answer(3, 1);
            return x;
        }, x -> x.cutPanel(0));
    }

    @Says(at = "Promise 5", value = "Throws `IllegalStateException` if a balloon of another panel answers one of its"
        + " balloons, or the page cannot be laid then")
    static void noCutThatLeavesAPageThatCannotBeLaid() {
        refused(STATE, Houses::withWideBalloons, x -> x.cutPanel(1));
        taken(4, Houses::withWideBalloons, x -> last(x.cutPanel(2), x.cutPanel(1), x.cutPanel(0)),
            x -> x.cutPanel(0));
    }

    @Says(at = "Terms", value = "Panels and balloons are there until they are cut.")
    static void aCutPanelIsNotThere() {
        refused(INDEX, () -> {
            GutterPages x = withLetters(3);
            x.panel(0, 1, 1, 24, 3);
            x.balloon(1, 0, 3);
            x.cutPanel(0);
            return x;
        }, x -> x.movePanel(0, 0), x -> x.cutPanel(0), x -> x.face(0, 0, 1, 1), x -> x.balloon(0, 0, 1),
            x -> moveBalloon(x, 1, 0, 0), x -> x.lies(0, 0), x -> x.cell(0, 0, 0), x -> x.jump(0),
            x -> x.panelAt(0, 1), x -> moveBalloon(x, 0, 1, 0), x -> x.cutBalloon(0), x -> x.answer(0, -1),
            x -> x.answer(1, 0), x -> x.floats(0, 0), x -> x.placeOf(0), x -> x.placeByPairs(0), x -> x.depth(0),
            x -> x.read(1));
    }

    @Says(at = "Promise 5", value = "Cuts a panel with its balloons.")
    static void theLastPanelIsCut() {
        GutterPages x = withLetters(3);
        due(1, x.cutPanel(0));
        due("0 0 0", x.panels(0) + " " + x.rows(0) + " " + x.balloons());
        due(1, x.panel(0, 0, 1, 4, 3));
        due("[0 0 0 24 3]", boxesOf(x, 1));
    }

    // ---- faces

    @Says(at = "Promise 6", value = "`column`: 0 to 23")
    static void columnsOfAFace() {
        taken("#......................./#......................./#.......................", () -> withWidths(24),
            x -> last(x.face(0, 0, 1, 3), cellsOf(x, 0)));
        taken(".......................#/.......................#/.......................#", () -> withWidths(24),
            x -> last(x.face(0, 23, 1, 3), cellsOf(x, 0)));
        refused(ARGUMENT, () -> withWidths(24), x -> x.face(0, -1, 1, 1), x -> x.face(0, 24, 1, 1),
            x -> x.face(0, LOW, 1, 1), x -> x.face(0, HIGH, 1, 1));
    }

    @Says(at = "Promise 6", value = "`width`: 1 to 24")
    static void widthsOfAFace() {
        taken("......................../......................../.....#..................", () -> withWidths(24),
            x -> last(x.face(0, 5, 1, 1), cellsOf(x, 0)));
        taken("......................../......................../########################", () -> withWidths(24),
            x -> last(x.face(0, 0, 24, 1), cellsOf(x, 0)));
        refused(ARGUMENT, () -> withWidths(24), x -> x.face(0, 0, 0, 1), x -> x.face(0, 0, 25, 1),
            x -> x.face(0, 0, -1, 1), x -> x.face(0, 0, LOW, 1), x -> x.face(0, 0, HIGH, 1));
    }

    @Says(at = "Promise 6", value = "`height`: 1 to 8")
    static void heightsOfAFace() {
        GutterPages x = withRows(10);
        due(10, x.face(0, 0, 1, 1));
        due(10, x.face(0, 1, 1, 8));
        due("-1 -1 -1 -2 -1 -2 -2 -2", x.cell(0, 0, 0) + " " + x.cell(0, 0, 8) + " " + x.cell(0, 1, 1) + " "
            + x.cell(0, 1, 2) + " " + x.cell(0, 2, 9) + " " + x.cell(0, 1, 8) + " " + x.cell(0, 1, 9) + " "
            + x.cell(0, 0, 9));
        refused(ARGUMENT, () -> withWidths(24), y -> y.face(0, 0, 1, 0), y -> y.face(0, 0, 1, 9),
            y -> y.face(0, 0, 1, -1), y -> y.face(0, 0, 1, LOW), y -> y.face(0, 0, 1, HIGH));
    }

    @Says(at = "Promise 6", value = "Returns how high its row is then.")
    static void aFacePushesItsRow() {
        taken(3, () -> withWidths(12, 12), x -> x.face(1, 0, 24, 8));
        taken(3, () -> withLetters(6), x -> x.face(0, 0, 24, 2));
        taken(4, () -> withLetters(6), x -> x.face(0, 0, 24, 3));
        taken(9, () -> withLetters(6), x -> x.face(0, 0, 24, 8));
        taken(12, () -> withRows(12), x -> x.face(0, 0, 24, 8));
        taken("9 9 9", () -> {
            GutterPages x = withWidths(12, 12);
            x.balloon(0, 0, 6);
            return x;
        }, x -> x.face(0, 0, 12, 8) + " " + x.lies(0, 4) + " " + x.lies(1, 4));
    }

    @Says(at = "Promise 6", value = "Throws `IndexOutOfBoundsException` if there is no such panel there")
    static void noSuchPanelForAFace() {
        refused(INDEX, () -> withWidths(4, 4), x -> x.face(-1, 0, 1, 1), x -> x.face(2, 0, 1, 1),
            x -> x.face(LOW, 0, 1, 1), x -> x.face(HIGH, 0, 1, 1));
    }

    @Says(at = "Promise 6", value = "Throws `IllegalArgumentException` if column, width or height is out of range")
    static void anyOfThreeOfAFaceOutOfRange() {
        refused(ARGUMENT, () -> withWidths(4, 20), x -> x.face(0, 24, 24, 8), x -> x.face(0, 23, 25, 8),
            x -> x.face(0, 23, 24, 9), x -> x.face(1, -1, 0, 0));
    }

    @Says(at = "Promise 6", value = "Throws `IllegalStateException` if the panel has 2 faces, or the page cannot be"
        + " laid then")
    static void noThirdFace() {
        refused(STATE, EdgesOfPages::withTwoFaces, x -> x.face(0, 0, 1, 1), x -> x.face(0, 20, 1, 1));
        taken(3, EdgesOfPages::withTwoFaces, x -> x.face(1, 0, 1, 1),
            x -> last(x.face(1, 0, 1, 1), x.face(1, 0, 1, 1)));
        taken(3, () -> withWidths(4, 20), x -> last(x.face(0, 23, 24, 8), x.face(0, 23, 24, 8)));
    }

    /** Two faces in the first panel, the second one beyond its width. */
    private static GutterPages withTwoFaces() {
        GutterPages x = withWidths(4, 20);
        x.face(0, 0, 1, 1);
        x.face(0, 23, 1, 1);
        return x;
    }

    @Says(at = "Promise 6", value = "Throws `IllegalStateException` if the panel has 2 faces, or the page cannot be"
        + " laid then")
    static void noFaceThatLeavesNoRoom() {
        taken(16, () -> withLetters(48), x -> x.face(0, 0, 24, 8));
        refused(STATE, () -> withLetters(49), x -> x.face(0, 0, 24, 8));
        taken(16, () -> withLetters(49), x -> x.face(0, 0, 24, 7));
        refused(STATE, EdgesOfPages::withABalloonOnAFullPage, x -> x.face(3, 0, 24, 1), x -> x.face(3, 0, 19, 8));
        taken(3, EdgesOfPages::withABalloonOnAFullPage, x -> x.face(3, 0, 18, 8), x -> x.face(3, 6, 18, 8));
        taken(3, EdgesOfPages::withABalloonOnAFullPage, x -> {
            fails(STATE, () -> x.face(3, 0, 24, 1));
            return last(x.face(3, 0, 1, 1), x.face(3, 1, 1, 1));
        });
    }

    /** 50 high; a balloon takes the whole height of the fourth row. */
    private static GutterPages withABalloonOnAFullPage() {
        GutterPages x = withRows(12, 12, 12, 3, 11);
        x.balloon(3, 0, 18);
        return x;
    }

    @Says(at = "Terms", value = "When a call throws, nothing has changed; of several exceptions it is the first one of"
        + " the throws clause.")
    static void firstExceptionOfFace() {
        refused(INDEX, EdgesOfPages::withTwoFaces, x -> x.face(2, -1, 0, 0), x -> x.face(-1, 24, 25, 9));
        refused(ARGUMENT, EdgesOfPages::withTwoFaces, x -> x.face(0, 24, 1, 1), x -> x.face(0, 0, 25, 1),
            x -> x.face(0, 0, 1, 9));
        refused(ARGUMENT, EdgesOfPages::withABalloonOnAFullPage, x -> x.face(3, 0, 25, 1));
    }
}
