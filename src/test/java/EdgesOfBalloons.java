/** Promises 7 to 12: balloons and tongues. */
final class EdgesOfBalloons extends Edges {
    private static final String FIRST = "When a call throws, nothing has changed; of several exceptions it is the first"
        + " one of the throws clause.";
    private static final String FULL = "Throws `IllegalStateException` if the panel has 4 balloons, there were 80, or"
        + " the page cannot be laid then";
    private static final String NO_PLACE = "Throws `IndexOutOfBoundsException` if there is no such balloon or panel"
        + " there, or the panel would have no such place";
    private static final String NO_MOVE = "Throws `IllegalStateException` if the panel is another one and has 4"
        + " balloons, a page cannot be laid then, or a balloon would be read before the one that it answers";
    private static final String ELSEWHERE = "Returns how many panels of the page lie elsewhere on the page (by left"
        + " side and top; which row that is does not count), or are of another width or height, than before.";
    private static final String ELSEWHERE_OF_ALL = "Returns how many panels of all pages lie elsewhere on the page (by"
        + " left side and top; which row that is does not count), or are of another width or height, than before.";

    private EdgesOfBalloons() {
    }

    // ---- balloons are made

    @Says(at = "Promise 7", value = "`place`: of the balloons of the panel, 0 to how many it has")
    static void placesOfANewBalloon() {
        GutterPages x = withWidths(24);
        due(0, x.balloon(0, 0, 1));
        due(1, x.balloon(0, 1, 1));
        due(2, x.balloon(0, 0, 1));
        due(3, x.balloon(0, 2, 1));
        due("2 0 3 1", readingOf(x));
    }

    @Says(at = "Promise 7", value = "`letters`: 1 to 60")
    static void lettersOfANewBalloon() {
        taken("[0 0 0 1 1]", () -> withLetters(1), x -> spotsOf(x, 0));
        taken("[0 0 0 6 10]", () -> withLetters(60), x -> spotsOf(x, 0));
        refused(ARGUMENT, () -> withWidths(24), x -> x.balloon(0, 0, 0), x -> x.balloon(0, 0, 61),
            x -> x.balloon(0, 0, -1), x -> x.balloon(0, 0, LOW), x -> x.balloon(0, 0, HIGH));
    }

    @Says(at = "Promise 7", value = "Returns its number.")
    static void balloonsAreNumberedAsTheyAreMade() {
        GutterPages x = withWidths(24, 24);
        due(0, x.balloon(1, 0, 1));
        due(1, x.balloon(0, 0, 1));
        due(0, x.cutBalloon(1));
        due(2, x.balloon(0, 0, 1));
        due(1, x.cutPanel(1));
        due(3, x.balloon(0, 1, 1));
        fails(INDEX, () -> x.balloon(0, 3, 1));
        fails(ARGUMENT, () -> x.balloon(0, 0, 61));
        due(4, x.balloon(0, 2, 1));
    }

    @Says(at = "Promise 7", value = "Throws `IndexOutOfBoundsException` if there is no such panel there, or it has no"
        + " such place")
    static void noSuchPanelForABalloon() {
        refused(INDEX, () -> withWidths(4, 4), x -> x.balloon(-1, 0, 1), x -> x.balloon(2, 0, 1),
            x -> x.balloon(LOW, 0, 1), x -> x.balloon(HIGH, 0, 1));
        refused(INDEX, () -> withPanels(50), x -> x.balloon(50, 0, 1));
    }

    @Says(at = "Promise 7", value = "Throws `IndexOutOfBoundsException` if there is no such panel there, or it has no"
        + " such place")
    static void noSuchPlaceForABalloon() {
        refused(INDEX, () -> withWidths(4, 4), x -> x.balloon(0, -1, 1), x -> x.balloon(0, 1, 1));
        refused(INDEX, () -> withLetters(1, 1), x -> x.balloon(0, -1, 1), x -> x.balloon(0, 3, 1),
            x -> x.balloon(0, LOW, 1), x -> x.balloon(0, HIGH, 1));
    }

    @Says(at = "Promise 7", value = FULL)
    static void noFifthBalloonOfAPanel() {
        taken(3, () -> withLetters(1, 1, 1), x -> x.balloon(0, 3, 1), x -> x.balloon(0, 0, 1));
        refused(STATE, () -> withLetters(1, 1, 1, 1), x -> x.balloon(0, 0, 1), x -> x.balloon(0, 4, 1));
        taken(4, () -> withLetters(1, 1, 1, 1), x -> last(x.cutBalloon(0), x.balloon(0, 3, 1)));
    }

    @Says(at = "Promise 7", value = FULL)
    static void noEightyFirstBalloonEver() {
        taken(79, () -> withBalloons(79), x -> x.balloon(20, 0, 1), x -> x.balloon(19, 3, 1));
        refused(STATE, () -> withBalloons(80), x -> x.balloon(20, 0, 1));
        refused(STATE, () -> {
            GutterPages x = withBalloons(80);
            x.cutBalloon(79);
            x.cutPanel(0);
            return x;
        }, x -> x.balloon(20, 0, 1), x -> x.balloon(19, 0, 1));
    }

    @Says(at = "Terms", value = "Balloons are numbered from 0 as they are made, at most 80 ever;")
    static void numbersOfBalloonsAreNeverGivenAgain() {
        GutterPages x = withWidths(24);
        for (int i = 0; i < 80; i++) {
            due(i, x.balloon(0, 0, 1));
            due(i, x.read(0));
            due(0, x.cutBalloon(i));
        }
        fails(STATE, () -> x.balloon(0, 0, 1));
        due(0, x.balloons());
    }

    @Says(at = "Terms", value = "A panel has at most 2 faces and a row of at most 4 balloons.")
    static void twoFacesAndFourBalloons() {
        GutterPages x = withLetters(1, 1, 1, 1);
        due(3, x.face(0, 0, 1, 1));
        due(3, x.face(0, 1, 1, 1));
        fails(STATE, () -> x.face(0, 2, 1, 1));
        fails(STATE, () -> x.balloon(0, 0, 1));
        x.panel(0, 1, 1, 24, 3);
        due(3, x.face(1, 0, 1, 1));
        due(4, x.balloon(1, 0, 1));
    }

    @Says(at = "Promise 7", value = "Throws `IllegalArgumentException` if letters is out of range")
    static void noSuchLetters() {
        refused(ARGUMENT, () -> withLetters(1, 1), x -> x.balloon(0, 0, 0), x -> x.balloon(0, 1, 61),
            x -> x.balloon(0, 2, LOW), x -> x.balloon(0, 2, HIGH));
        taken(2, () -> withLetters(1, 1), x -> x.balloon(0, 2, 1), x -> x.balloon(0, 0, 60));
    }

    @Says(at = "Promise 7", value = FULL)
    static void noBalloonThatLeavesNoRoom() {
        taken(1, () -> withRows(12, 12, 12, 11, 3), x -> last(x.balloon(4, 0, 18), x.balloon(4, 0, 18)));
        refused(STATE, () -> withRows(12, 12, 12, 11, 3), x -> x.balloon(4, 0, 19));
        refused(STATE, () -> grown(withWidths(24), 250), x -> x.balloon(0, 0, 39), x -> x.balloon(0, 0, 60));
        taken(0, () -> grown(withWidths(24), 250), x -> x.balloon(0, 0, 38));
    }

    private static GutterPages grown(GutterPages x, int growth) {
        x.setGrowth(0, growth);
        return x;
    }

    @Says(at = "Terms", value = FIRST)
    static void firstExceptionOfBalloon() {
        refused(INDEX, () -> withLetters(1, 1, 1, 1), x -> x.balloon(0, 5, 1), x -> x.balloon(0, -1, 0),
            x -> x.balloon(1, 0, 61), x -> x.balloon(0, 5, 61));
        refused(ARGUMENT, () -> withLetters(1, 1, 1, 1), x -> x.balloon(0, 4, 0), x -> x.balloon(0, 0, 61));
        refused(ARGUMENT, () -> withBalloons(80), x -> x.balloon(20, 0, 61));
        refused(INDEX, () -> withBalloons(80), x -> x.balloon(20, 1, 1));
    }

    // ---- balloons are moved

    @Says(at = "Promise 8", value = "`place`: the place that it has there then")
    static void placesOfAMovedBalloon() {
        for (int place = 0; place < 4; place++) {
            GutterPages x = withLetters(1, 1, 1, 1);
            moveBalloon(x, 2, 0, place);
            due(2, x.read(place));
        }
        taken("1 2 3 0", () -> withLetters(1, 1, 1, 1), x -> last(moveBalloon(x, 0, 0, 3), readingOf(x)));
        taken("3 0 1 2", () -> withLetters(1, 1, 1, 1), x -> last(moveBalloon(x, 3, 0, 0), readingOf(x)));
        taken("0 2 1 3", () -> withLetters(1, 1, 1, 1), x -> last(moveBalloon(x, 1, 0, 2), readingOf(x)));
        taken("0 1 2 3", () -> withLetters(1, 1, 1, 1), x -> last(moveBalloon(x, 1, 0, 1), readingOf(x)));
    }

    @Says(at = "Promise 8", value = "Moves a balloon to another panel, or to another place of its own.")
    static void placesOfABalloonInAnotherPanel() {
        taken("0 2 3 4 1", EdgesOfBalloons::withThreeAndTwo, x -> last(moveBalloon(x, 1, 1, 2), readingOf(x)));
        taken("0 2 1 3 4", EdgesOfBalloons::withThreeAndTwo, x -> last(moveBalloon(x, 1, 1, 0), readingOf(x)));
        taken("0 1 2 4 3", EdgesOfBalloons::withThreeAndTwo, x -> last(moveBalloon(x, 3, 0, 3), moveBalloon(x, 3, 1, 1),
            readingOf(x)));
        taken("[1 0 0 6 2]", EdgesOfBalloons::withThreeAndTwo, x -> last(x.balloon(0, 0, 12), moveBalloon(x, 5, 1, 0),
            spotsOf(x, 5)));
    }

    /** Rows of three balloons and of two, of a letter each. */
    private static GutterPages withThreeAndTwo() {
        GutterPages x = withLetters(1, 1, 1);
        x.panel(0, 1, 1, 24, 3);
        x.balloon(1, 0, 1);
        x.balloon(1, 1, 1);
        return x;
    }

    @Says(at = "Promise 8", value = "Moves a balloon to another panel, or to another place of its own.")
    static void bothPagesAreLaidAnew() {
        GutterPages x = withLetters(30, 6);
        x.page();
        x.panel(1, 0, 1, 24, 3);
        due("[0 0 0 24 5][0 0 0 24 3]", boxesOf(x, 0, 1));
        due("[0 6 0 6 1]", spotsOf(x, 1));
        moveBalloon(x, 0, 1, 0);
        due("[0 0 0 24 3][0 0 0 24 5]", boxesOf(x, 0, 1));
        due("[1 0 0 6 5][0 0 0 6 1]", spotsOf(x, 0, 1));
        moveBalloon(x, 1, 1, 1);
        due("[1 0 0 6 5][1 6 0 6 1]", spotsOf(x, 0, 1));
        moveBalloon(x, 0, 0, 0);
        due("[0 0 0 24 5][0 0 0 24 3]", boxesOf(x, 0, 1));
        due("[0 0 0 6 5][1 0 0 6 1]", spotsOf(x, 0, 1));
    }

    @Says(at = "Promise 8", value = NO_PLACE)
    static void noSuchBalloonToMove() {
        refused(INDEX, EdgesOfBalloons::withThreeAndTwo, x -> moveBalloon(x, -1, 0, 0), x -> moveBalloon(x, 5, 0, 0),
            x -> moveBalloon(x, LOW, 0, 0), x -> moveBalloon(x, HIGH, 0, 0));
        refused(INDEX, () -> withBalloons(80), x -> moveBalloon(x, 80, 20, 0));
    }

    @Says(at = "Promise 8", value = NO_PLACE)
    static void noSuchPanelToMoveABalloonTo() {
        refused(INDEX, EdgesOfBalloons::withThreeAndTwo, x -> moveBalloon(x, 0, -1, 0), x -> moveBalloon(x, 0, 2, 0),
            x -> moveBalloon(x, 0, LOW, 0), x -> moveBalloon(x, 0, HIGH, 0));
    }

    @Says(at = "Promise 8", value = NO_PLACE)
    static void noSuchPlaceInItsOwnPanel() {
        refused(INDEX, EdgesOfBalloons::withThreeAndTwo, x -> moveBalloon(x, 0, 0, -1), x -> moveBalloon(x, 0, 0, 3),
            x -> moveBalloon(x, 2, 0, 3), x -> moveBalloon(x, 3, 1, 2), x -> moveBalloon(x, 0, 0, LOW),
            x -> moveBalloon(x, 0, 0, HIGH));
        refused(INDEX, () -> withLetters(1), x -> moveBalloon(x, 0, 0, 1));
        refused(INDEX, () -> withLetters(1, 1, 1, 1), x -> moveBalloon(x, 0, 0, 4));
    }

    @Says(at = "Promise 8", value = NO_PLACE)
    static void noSuchPlaceInAnotherPanel() {
        refused(INDEX, EdgesOfBalloons::withThreeAndTwo, x -> moveBalloon(x, 0, 1, -1), x -> moveBalloon(x, 0, 1, 3),
            x -> moveBalloon(x, 3, 0, 4), x -> moveBalloon(x, 0, 1, LOW), x -> moveBalloon(x, 0, 1, HIGH));
        taken("moved", EdgesOfBalloons::withThreeAndTwo, x -> moveBalloon(x, 0, 1, 2), x -> moveBalloon(x, 3, 0, 3));
    }

    @Says(at = "Promise 8", value = NO_MOVE)
    static void noMoveToAFullPanel() {
        refused(STATE, EdgesOfBalloons::withFourAndOne, x -> moveBalloon(x, 4, 0, 0), x -> moveBalloon(x, 4, 0, 3),
            x -> moveBalloon(x, 4, 0, 4));
        taken("moved", EdgesOfBalloons::withFourAndOne, x -> last(x.cutBalloon(1), moveBalloon(x, 4, 0, 3)));
    }

    @Says(at = "Promise 8", value = NO_MOVE)
    static void aFullPanelMovesItsOwn() {
        taken("1 2 3 0 4", EdgesOfBalloons::withFourAndOne, x -> last(moveBalloon(x, 0, 0, 3), readingOf(x)));
        taken("0 2 3 4 1", EdgesOfBalloons::withFourAndOne, x -> last(moveBalloon(x, 1, 1, 1), readingOf(x)));
    }

    /** Rows of four balloons and of one, of a letter each. */
    private static GutterPages withFourAndOne() {
        GutterPages x = withLetters(1, 1, 1, 1);
        x.panel(0, 1, 1, 24, 3);
        x.balloon(1, 0, 1);
        return x;
    }

    @Says(at = "Promise 8", value = NO_MOVE)
    static void noMoveToAPageThatCannotBeLaid() {
        refused(STATE, () -> withTwoHighPages(19), x -> moveBalloon(x, 0, 2, 0));
        taken("moved", () -> withTwoHighPages(18), x -> moveBalloon(x, 0, 2, 0));
        taken("[2 0 0 6 3]", () -> withTwoHighPages(18), x -> last(moveBalloon(x, 0, 2, 0), spotsOf(x, 0)));
    }

    /** A balloon of so many letters alone on a page, and a page of rows of 3, 12, 12, 12 and 11. */
    private static GutterPages withTwoHighPages(int letters) {
        GutterPages x = withLetters(letters);
        x.page();
        for (int i = 0; i < 5; i++) {
            x.panel(1, i, 1, 24, i == 1 ? 3 : i == 4 ? 11 : 12);
        }
        return x;
    }

    @Says(at = "Promise 8", value = NO_MOVE)
    static void noMoveFromAPageThatCannotBeLaidThen() {
        refused(STATE, Houses::withTightBalloons, x -> moveBalloon(x, 0, 5, 0), x -> moveBalloon(x, 0, 0, 0));
        refused(STATE, EdgesOfBalloons::withTightBalloonsAndAPage, x -> moveBalloon(x, 0, 6, 0));
        taken("moved", EdgesOfBalloons::withTightBalloonsAndAPage, x -> moveBalloon(x, 3, 6, 0),
            x -> last(moveBalloon(x, 3, 6, 0), moveBalloon(x, 0, 6, 0)));
    }

    private static GutterPages withTightBalloonsAndAPage() {
        GutterPages x = withTightBalloons();
        x.page();
        x.panel(1, 0, 1, 24, 3);
        return x;
    }

    @Says(at = "Promise 8", value = NO_MOVE)
    static void noMoveInAPanelThatCannotHoldThemSo() {
        refused(STATE, EdgesOfBalloons::withOneHighBalloon, x -> moveBalloon(x, 0, 4, 2));
        taken("[4 2 0 6 3][4 0 0 2 1][4 0 1 2 1]", EdgesOfBalloons::withOneHighBalloon,
            x -> last(moveBalloon(x, 0, 4, 1), spotsOf(x, 0, 1, 2)));
        taken("[4 0 0 6 3][4 6 1 2 1][4 6 0 2 1]", EdgesOfBalloons::withOneHighBalloon,
            x -> last(moveBalloon(x, 2, 4, 1), spotsOf(x, 0, 1, 2)));
    }

    /** 50 high; in a panel 8 wide and 3 high there is room for a balloon 6 wide, but behind both others none. */
    private static GutterPages withOneHighBalloon() {
        GutterPages x = withRows(12, 12, 12, 11);
        x.panel(0, 4, 1, 8, 3);
        x.panel(0, 5, 1, 16, 3);
        x.balloon(4, 0, 13);
        x.balloon(4, 1, 2);
        x.balloon(4, 2, 2);
        return x;
    }

    @Says(at = "Promise 8", value = NO_MOVE)
    static void noMoveThatPutsAnAnswerAhead() {
        refused(STATE, EdgesOfBalloons::withAnswers, x -> moveBalloon(x, 0, 0, 1), x -> moveBalloon(x, 1, 0, 0),
            x -> moveBalloon(x, 0, 1, 0), x -> moveBalloon(x, 2, 0, 0), x -> moveBalloon(x, 2, 0, 1),
            x -> moveBalloon(x, 1, 1, 1), x -> moveBalloon(x, 0, 1, 1));
        taken("moved", EdgesOfBalloons::withAnswers, x -> moveBalloon(x, 2, 0, 2), x -> moveBalloon(x, 1, 1, 0),
            x -> moveBalloon(x, 0, 0, 0), x -> moveBalloon(x, 2, 1, 0));
        taken("2 0 1", EdgesOfBalloons::withAnswers, x -> last(x.answer(2, -1), moveBalloon(x, 2, 0, 0),
            readingOf(x)));
    }

    /** Two balloons in a row and one in another; each answers the one ahead of it. */
    private static GutterPages withAnswers() {
        GutterPages x = withLetters(1, 1);
        x.panel(0, 1, 1, 24, 3);
        x.balloon(1, 0, 1);
        x.answer(1, 0);
        x.answer(2, 1);
        return x;
    }

    @Says(at = "Promise 8", value = NO_MOVE)
    static void noMoveToAPageAheadOfTheAnswered() {
        refused(STATE, EdgesOfBalloons::withAnswersOnPages, x -> moveBalloon(x, 1, 0, 0), x -> moveBalloon(x, 0, 2, 1));
        taken("moved", EdgesOfBalloons::withAnswersOnPages, x -> moveBalloon(x, 0, 0, 0), x -> moveBalloon(x, 0, 2, 0),
            x -> moveBalloon(x, 1, 1, 1), x -> moveBalloon(x, 1, 2, 0));
    }

    /** Three pages with a panel each; a balloon of the third one answers one of the second one. */
    private static GutterPages withAnswersOnPages() {
        GutterPages x = withPages(3);
        for (int i = 0; i < 3; i++) {
            x.panel(i, 0, 1, 24, 3);
        }
        x.balloon(1, 0, 1);
        x.balloon(2, 0, 1);
        x.answer(1, 0);
        return x;
    }

    @Says(at = "Terms", value = "A call that would lead to a page that cannot be laid, or to a balloon that is read"
        + " before the one that it answers, throws.")
    static void theBalloonMadeFirstMayBeTheOneThatAnswers() {
        refused(STATE, EdgesOfBalloons::withAnEarlyAnswer, x -> x.movePanel(1, 0), x -> x.movePanel(0, 1),
            x -> x.cutPanel(0), x -> moveBalloon(x, 0, 0, 0), x -> moveBalloon(x, 1, 1, 1), x -> x.cutBalloon(1),
            x -> x.answer(1, 0));
        taken("moved", EdgesOfBalloons::withAnEarlyAnswer, x -> moveBalloon(x, 0, 0, 1), x -> moveBalloon(x, 1, 1, 0));
        taken(1, EdgesOfBalloons::withAnEarlyAnswer, x -> x.cutBalloon(0), x -> x.cutPanel(1), x -> x.answer(0, -1));
    }

    /** Two rows; the balloon that was made first is in the second one and answers that in the first one. */
    private static GutterPages withAnEarlyAnswer() {
        GutterPages x = withRows(3, 3);
        x.balloon(1, 0, 1);
        x.balloon(0, 0, 1);
        x.answer(0, 1);
        return x;
    }

    @Says(at = "Terms", value = FIRST)
    static void firstExceptionOfMoveBalloon() {
        refused(INDEX, EdgesOfBalloons::withFourAndOne, x -> moveBalloon(x, 4, 0, 5), x -> moveBalloon(x, 4, 0, -1),
            x -> moveBalloon(x, 5, 0, 0), x -> moveBalloon(x, 4, 2, 4));
        refused(INDEX, EdgesOfBalloons::withAnswers, x -> moveBalloon(x, 2, 0, 3), x -> moveBalloon(x, 2, 0, -1));
    }

    // ---- balloons are cut

    @Says(at = "Promise 9", value = "Returns its panel.")
    static void aCutBalloonTellsItsPanel() {
        taken(0, EdgesOfBalloons::withThreeAndTwo, x -> x.cutBalloon(0), x -> x.cutBalloon(2));
        taken(1, EdgesOfBalloons::withThreeAndTwo, x -> x.cutBalloon(3), x -> x.cutBalloon(4));
        taken(1, EdgesOfBalloons::withThreeAndTwo, x -> last(moveBalloon(x, 0, 1, 0), x.cutBalloon(0)));
    }

    @Says(at = "Promise 9", value = "Cuts a balloon.")
    static void theLastBalloonIsCut() {
        GutterPages x = withLetters(60);
        due(10, x.lies(0, 4));
        due(0, x.cutBalloon(0));
        due("0 3", x.balloons() + " " + x.lies(0, 4));
        fails(INDEX, () -> x.read(0));
        due(1, x.balloon(0, 0, 1));
    }

    @Says(at = "Promise 9", value = "Throws `IndexOutOfBoundsException` if there is no such balloon there")
    static void noSuchBalloonToCut() {
        refused(INDEX, () -> withLetters(1, 1), x -> x.cutBalloon(-1), x -> x.cutBalloon(2), x -> x.cutBalloon(LOW),
            x -> x.cutBalloon(HIGH));
        refused(INDEX, EdgesOfBalloons::withOneCut, x -> x.cutBalloon(0));
        refused(INDEX, () -> withBalloons(80), x -> x.cutBalloon(80));
    }

    private static GutterPages withOneCut() {
        GutterPages x = withLetters(3, 3);
        x.cutBalloon(0);
        return x;
    }

    @Says(at = "Terms", value = "Panels and balloons are there until they are cut.")
    static void aCutBalloonIsNotThere() {
        refused(INDEX, EdgesOfBalloons::withOneCut, x -> moveBalloon(x, 0, 0, 0), x -> x.answer(0, -1),
            x -> x.answer(1, 0), x -> x.answer(0, 1), x -> x.floats(0, 0), x -> x.placeOf(0), x -> x.placeByPairs(0),
            x -> x.depth(0), x -> x.read(1), x -> x.balloon(0, 2, 1));
    }

    @Says(at = "Promise 9", value = "Throws `IllegalStateException` if another one answers it, or the page cannot be"
        + " laid then")
    static void noCutOfAnAnsweredBalloon() {
        refused(STATE, EdgesOfBalloons::withAnswers, x -> x.cutBalloon(0), x -> x.cutBalloon(1));
        refused(STATE, EdgesOfBalloons::withAnswersOnPages, x -> x.cutBalloon(0));
        taken(0, EdgesOfBalloons::withAnswers, x -> last(x.cutBalloon(2), x.cutBalloon(1)),
            x -> last(x.answer(1, -1), x.cutBalloon(0)), x -> last(x.answer(2, 0), x.cutBalloon(1)));
    }

    @Says(at = "Promise 9", value = "Throws `IllegalStateException` if another one answers it, or the page cannot be"
        + " laid then")
    static void noCutThatLeavesThePageWithoutRoom() {
        refused(STATE, Houses::withTightBalloons, x -> x.cutBalloon(0), x -> x.cutBalloon(1));
        taken(4, Houses::withTightBalloons, x -> x.cutBalloon(2), x -> x.cutBalloon(3),
            x -> last(x.cutBalloon(3), x.cutBalloon(0)));
    }

    // ---- answers

    @Says(at = "Promise 10", value = "Returns the one that it answered, -1 if none.")
    static void tellsWhomItAnswered() {
        GutterPages x = withLetters(1, 1, 1);
        due(-1, x.answer(2, 0));
        due(0, x.answer(2, 1));
        due(1, x.answer(2, 1));
        due(1, x.answer(2, -1));
        due(-1, x.answer(2, -1));
        due(-1, x.answer(0, -1));
    }

    @Says(at = "Promise 10", value = "Lets a balloon answer another one, in place of the one that it may answer.")
    static void answersOneInPlaceOfAnother() {
        GutterPages x = withLetters(1, 1, 1);
        x.answer(2, 0);
        x.answer(2, 1);
        due(1, x.depth(2));
        due(0, x.cutBalloon(0));
        fails(STATE, () -> x.cutBalloon(1));
        x.answer(2, -1);
        due(0, x.depth(2));
        due(0, x.cutBalloon(1));
    }

    @Says(at = "Promise 10", value = "`other`: the balloon that it answers, or -1 for none")
    static void answersNone() {
        taken(-1, () -> withLetters(1, 1), x -> x.answer(0, -1), x -> x.answer(1, -1), x -> x.answer(1, 0));
        taken(0, EdgesOfBalloons::withAnswers, x -> last(x.answer(1, -1), x.depth(1)), x -> x.answer(1, -1));
    }

    @Says(at = "Promise 10", value = "Throws `IndexOutOfBoundsException` if there is no such balloon there, or other is"
        + " neither -1 nor one there")
    static void noSuchBalloonToAnswer() {
        refused(INDEX, EdgesOfBalloons::withAnswers, x -> x.answer(-1, 0), x -> x.answer(3, 0), x -> x.answer(3, -1),
            x -> x.answer(-1, -1), x -> x.answer(LOW, 0), x -> x.answer(HIGH, 0));
        refused(INDEX, EdgesOfBalloons::withAnswers, x -> x.answer(2, -2), x -> x.answer(2, 3), x -> x.answer(2, LOW),
            x -> x.answer(2, HIGH));
        refused(INDEX, EdgesOfBalloons::withOneCut, x -> x.answer(0, 1), x -> x.answer(0, -1), x -> x.answer(1, 0));
    }

    @Says(at = "Promise 10", value = "Throws `IllegalStateException` if the other one is not read before it")
    static void noAnswerToItselfOrALaterOne() {
        refused(STATE, EdgesOfBalloons::withAnswers, x -> x.answer(0, 0), x -> x.answer(0, 1), x -> x.answer(0, 2),
            x -> x.answer(1, 1), x -> x.answer(1, 2), x -> x.answer(2, 2));
        refused(STATE, EdgesOfBalloons::withAnswersOnPages, x -> x.answer(0, 1));
        taken(1, EdgesOfBalloons::withAnswers, x -> x.answer(2, 0), x -> x.answer(2, 1));
    }

    @Says(at = "Terms", value = "A balloon can answer another one, which is read before it.")
    static void readBeforeIsNotMadeBefore() {
        GutterPages x = withWidths(12, 12);
        x.balloon(1, 0, 1);
        x.balloon(0, 0, 1);
        x.balloon(0, 0, 1);
        due("2 1 0", readingOf(x));
        due(-1, x.answer(0, 2));
        due(-1, x.answer(1, 2));
        fails(STATE, () -> x.answer(2, 0));
        fails(STATE, () -> x.answer(1, 0));
        x.translate(0, 1);
        due(2, x.answer(0, 1));
        fails(STATE, () -> x.answer(1, 0));
    }

    @Says(at = "Terms", value = FIRST)
    static void firstExceptionOfAnswer() {
        refused(INDEX, EdgesOfBalloons::withAnswers, x -> x.answer(0, 3), x -> x.answer(3, 3), x -> x.answer(-1, 2));
    }

    // ---- tongues

    @Says(at = "Promise 11", value = "`tongue`: 0 to 2")
    static void tonguesOfAPage() {
        taken(2, () -> withWidths(12, 12), x -> x.translate(0, 1), x -> last(x.translate(0, 2), x.translate(0, 1)));
        taken(0, () -> withWidths(12, 12), x -> x.translate(0, 0), x -> x.translate(0, 2));
        refused(ARGUMENT, () -> withWidths(12, 12), x -> x.translate(0, -1), x -> x.translate(0, 3),
            x -> x.translate(0, LOW), x -> x.translate(0, HIGH));
    }

    @Says(at = "Promise 11", value = ELSEWHERE)
    static void countsThePanelsThatLieElsewhere() {
        taken(0, () -> withPages(1), x -> x.translate(0, 1));
        taken(0, () -> withRows(3, 3), x -> x.translate(0, 1));
        taken(2, () -> withWidths(8, 8, 8), x -> x.translate(0, 1));
        taken(3, () -> withWidths(5, 4, 4, 20), x -> x.translate(0, 1));
        taken(3, () -> withWidths(5, 4, 4, 20), x -> last(x.translate(0, 1), x.translate(0, 2)));
        taken(0, () -> withWidths(5, 4, 4, 20), x -> last(x.translate(0, 1), x.translate(0, 1)));
        taken(0, () -> withLetters(5, 4), x -> x.translate(0, 1));
    }

    @Says(at = "Promise 11", value = ELSEWHERE)
    static void countsThePanelsThatGrow() {
        GutterPages x = withWidths(12, 12, 24, 24);
        x.balloon(2, 0, 18);
        x.setGrowth(2, 101);
        due(2, x.translate(0, 2));
        due("[0 0 0 12 3][1 0 3 24 4][2 0 7 24 3]", boxesOf(x, 0, 2, 3));
        due(2, x.translate(0, 0));
        x.page();
        x.panel(1, 0, 1, 24, 3);
        due(2, x.translate(0, 1));
        due(4, x.translate(0, 2));
        due(0, x.translate(1, 1));
    }

    @Says(at = "Promise 11", value = "Throws `IndexOutOfBoundsException` if there is no such page")
    static void noSuchPageToTranslate() {
        refused(INDEX, () -> withPages(2), x -> x.translate(-1, 0), x -> x.translate(2, 0), x -> x.translate(LOW, 0),
            x -> x.translate(HIGH, 0));
        refused(INDEX, () -> withPages(10), x -> x.translate(10, 0));
        taken(0, () -> withPages(10), x -> x.translate(9, 1));
    }

    @Says(at = "Promise 11", value = "Throws `IllegalArgumentException` if tongue is out of range")
    static void noSuchTongueToTranslateTo() {
        refused(ARGUMENT, () -> withPages(10), x -> x.translate(9, 3), x -> x.translate(0, -1));
        refused(INDEX, () -> withPages(2), x -> x.translate(2, 3), x -> x.translate(-1, -1));
    }

    @Says(at = "Promise 11", value = "Throws `IllegalStateException` if the page cannot be laid then")
    static void noTranslationThatGrowsTooMuch() {
        refused(STATE, () -> withForeignGrowth(250), x -> x.translate(0, 1));
        taken(1, () -> withForeignGrowth(160), x -> x.translate(0, 1));
        refused(STATE, () -> withForeignGrowth(161), x -> x.translate(0, 1));
    }

    /** A page of the tongue 0 with a balloon of 60 letters; the tongue 1 has this growth. */
    private static GutterPages withForeignGrowth(int growth) {
        GutterPages x = withLetters(60);
        x.setGrowth(1, growth);
        return x;
    }

    @Says(at = "Promise 11", value = "Throws `IllegalStateException` if the page cannot be laid then")
    static void noTranslationThatLeavesNoRoom() {
        refused(STATE, () -> withAFaceInTheWay(11), x -> x.translate(0, 1));
        taken(0, () -> withAFaceInTheWay(11), x -> x.translate(0, 2), x -> x.translate(0, 0));
        taken(1, () -> withAFaceInTheWay(9), x -> x.translate(0, 1));
    }

    /** Rows of 12, 12, 12, so much, and 3; read from the right, the balloons of the last row need 5 lines. */
    private static GutterPages withAFaceInTheWay(int height) {
        GutterPages x = withRows(12, 12, 12, height, 3);
        x.face(4, 5, 3, 8);
        x.balloon(4, 0, 5);
        x.balloon(4, 1, 13);
        x.balloon(4, 2, 9);
        x.balloon(4, 3, 2);
        return x;
    }

    @Says(at = "Promise 12", value = "`tongue`: 0 to 2")
    static void tonguesWithAGrowth() {
        taken(1, () -> withLetters(18), x -> x.setGrowth(0, 101));
        taken(0, () -> withLetters(18), x -> x.setGrowth(1, 101), x -> x.setGrowth(2, 101));
        refused(ARGUMENT, () -> withLetters(18), x -> x.setGrowth(-1, 100), x -> x.setGrowth(3, 100),
            x -> x.setGrowth(LOW, 100), x -> x.setGrowth(HIGH, 100));
    }

    @Says(at = "Promise 12", value = "`growth`: 50 to 250")
    static void growthsOfATongue() {
        taken("[0 0 0 3 1]", () -> grown(withLetters(6), 50), x -> spotsOf(x, 0));
        taken("[0 0 0 6 3]", () -> grown(withLetters(6), 250), x -> spotsOf(x, 0));
        refused(ARGUMENT, () -> withLetters(6), x -> x.setGrowth(0, 49), x -> x.setGrowth(0, 251),
            x -> x.setGrowth(0, 0), x -> x.setGrowth(0, -100), x -> x.setGrowth(0, LOW), x -> x.setGrowth(0, HIGH));
    }

    @Says(at = "Promise 12", value = "Throws `IllegalArgumentException` if tongue or growth is out of range")
    static void anyOfBothOutOfRange() {
        refused(ARGUMENT, () -> withLetters(60), x -> x.setGrowth(3, 250), x -> x.setGrowth(-1, 50),
            x -> x.setGrowth(2, 251), x -> x.setGrowth(0, 49), x -> x.setGrowth(3, 251));
        taken(0, () -> withLetters(60), x -> x.setGrowth(2, 250), x -> x.setGrowth(2, 50), x -> x.setGrowth(1, 250));
    }

    @Says(at = "Promise 12", value = ELSEWHERE_OF_ALL)
    static void countsThePanelsOfAllPages() {
        GutterPages x = withPages(3);
        for (int i = 0; i < 6; i++) {
            x.panel(i / 2, i % 2, 1, 24, 3);
        }
        x.balloon(0, 0, 18);
        x.balloon(3, 0, 18);
        x.balloon(4, 0, 18);
        x.translate(2, 2);
        due(3, x.setGrowth(0, 101));
        due(0, x.setGrowth(0, 101));
        due(0, x.setGrowth(0, 133));
        due(3, x.setGrowth(0, 134));
        due(0, x.setGrowth(1, 250));
        due(2, x.setGrowth(2, 101));
        due(0, new GutterPages().setGrowth(0, 250));
    }

    @Says(at = "Promise 12", value = "Throws `IllegalStateException` if a page cannot be laid then")
    static void noGrowthThatAnyPageHasNoRoomFor() {
        refused(STATE, EdgesOfBalloons::withThreePages, x -> x.setGrowth(0, 161), x -> x.setGrowth(0, 250));
        taken(2, EdgesOfBalloons::withThreePages, x -> x.setGrowth(0, 160));
        taken(0, EdgesOfBalloons::withThreePages, x -> x.setGrowth(1, 250), x -> x.setGrowth(2, 250));
        GutterPages x = withThreePages();
        fails(STATE, () -> x.setGrowth(0, 161));
        due(3, x.balloon(2, 1, 6));
        due("6x1", x.floats(3, 3) + "x" + x.floats(3, 4));
    }

    /** Balloons of 18, 60 and 1 letters on pages of their own. */
    private static GutterPages withThreePages() {
        GutterPages x = withPages(3);
        for (int i = 0; i < 3; i++) {
            x.panel(i, 0, 1, 24, 3);
            x.balloon(i, 0, i == 0 ? 18 : i == 1 ? 60 : 1);
        }
        return x;
    }

    @Says(at = "Terms", value = FIRST)
    static void firstExceptionOfTongues() {
        refused(ARGUMENT, EdgesOfBalloons::withThreePages, x -> x.setGrowth(0, 251), x -> x.setGrowth(3, 161));
        refused(INDEX, () -> withForeignGrowth(250), x -> x.translate(1, 1), x -> x.translate(1, 3));
        refused(ARGUMENT, () -> withForeignGrowth(250), x -> x.translate(0, 3));
    }
}
