/** What stands under 'Rows': which panels share a row, how wide they are, and how high it is. */
final class EdgesOfRows extends Edges {
    private static final String TAKES = "a row takes panel after panel, as long as their least widths together are at"
        + " most 24.";
    private static final String SHARES = "In a row each panel gets its least width, and of what is left of 24 as much"
        + " as its weight tells: what is left, times its weight, divided by the weights of the row together,"
        + " rounded down; what is left behind that goes to the first panels of the row, 1 to each.";
    private static final String LEAST = "or, if the balloons of one of its panels cannot be placed in it so, it has the"
        + " least height above that with which those of each of its panels can.";
    private static final String BEYOND = "If that would be above 16, or the rows of the page together are higher than"
        + " 50, the page cannot be laid.";

    private EdgesOfRows() {
    }

    @Says(at = "Rows", value = TAKES)
    static void twentyFourIsARow() {
        taken(1, () -> withWidths(12, 12), x -> x.rows(0));
        taken(1, () -> withWidths(20, 4), x -> x.rows(0));
        taken(1, () -> withWidths(4, 4, 4, 4, 4, 4), x -> x.rows(0));
        taken(1, () -> withWidths(24), x -> x.rows(0));
    }

    @Says(at = "Rows", value = TAKES)
    static void twentyFiveIsNoRow() {
        taken(2, () -> withWidths(12, 13), x -> x.rows(0));
        taken(2, () -> withWidths(21, 4), x -> x.rows(0));
        taken(2, () -> withWidths(4, 4, 4, 4, 4, 5), x -> x.rows(0));
        taken(2, () -> withWidths(4, 4, 4, 4, 4, 4, 4), x -> x.rows(0));
        taken(8, () -> withRows(3, 3, 3, 3, 3, 3, 3, 3), x -> x.rows(0));
    }

    @Says(at = "Rows", value = TAKES)
    static void theLeastWidthsCountNotTheShared() {
        // The row of 4 and 4 is full already, 12 and 12 wide, and still takes 16 more.
        taken("[0 0 0 4 3][0 4 0 4 3][0 8 0 16 3]", () -> withWidths(4, 4, 16), x -> boxesOf(x, 0, 1, 2));
    }

    @Says(at = "Rows", value = "Its panels are laid in rows, in the order of the page")
    static void noPanelGoesBackToARowAhead() {
        taken("[0 0 0 24 3][1 0 3 13 3][1 13 3 11 3]", () -> withWidths(20, 5, 4), x -> boxesOf(x, 0, 1, 2));
    }

    @Says(at = "Rows", value = "A page is 24 wide.")
    static void eachRowIsTwentyFourWide() {
        taken("[0 0 0 24 3]", () -> withWidths(4), x -> boxesOf(x, 0));
        taken("[0 0 0 24 3][1 0 3 24 3]", () -> withWidths(23, 4), x -> boxesOf(x, 0, 1));
        for (int width = 4; width <= 20; width++) {
            GutterPages x = withWidths(width, 4);
            due(24, x.lies(0, 3) + x.lies(1, 3));
            due(x.lies(0, 3), x.lies(1, 1));
        }
    }

    @Says(at = "Rows", value = SHARES)
    static void nothingIsLeft() {
        taken("[0 0 0 8 3][0 8 0 7 3][0 15 0 9 3]", () -> withWidths(8, 7, 9), x -> boxesOf(x, 0, 1, 2));
    }

    @Says(at = "Rows", value = SHARES)
    static void allIsSharedEvenly() {
        taken("[0 0 0 8 3][0 8 0 8 3][0 16 0 8 3]", () -> withWidths(4, 4, 4), x -> boxesOf(x, 0, 1, 2));
    }

    @Says(at = "Rows", value = SHARES)
    static void theFirstPanelsGetWhatIsLeftBehind() {
        taken("[0 0 0 8 3][0 8 0 7 3][0 15 0 9 3]", () -> withWidths(4, 4, 6), x -> boxesOf(x, 0, 1, 2));
        taken("[0 0 0 9 3][0 9 0 8 3][0 17 0 7 3]", () -> withWidths(5, 4, 4), x -> boxesOf(x, 0, 1, 2));
    }

    @Says(at = "Rows", value = SHARES)
    static void lessIsLeftThanThereArePanels() {
        taken("[0 0 0 5 3][0 5 0 5 3][0 10 0 5 3][0 15 0 5 3][0 20 0 4 3]", () -> withWidths(4, 4, 4, 4, 4),
            x -> boxesOf(x, 0, 1, 2, 3, 4));
        taken("[0 0 0 12 3][0 12 0 12 3]", () -> withWidths(11, 12), x -> boxesOf(x, 0, 1));
        taken("[0 0 0 13 3][0 13 0 11 3]", () -> withWidths(12, 11), x -> boxesOf(x, 0, 1));
    }

    @Says(at = "Rows", value = SHARES)
    static void theWeightsTellTheShares() {
        // 16 are left: 14.4 and 1.6 of them; 1 is left behind that.
        taken("[0 0 0 19 3][0 19 0 5 3]", () -> withWeights(9, 1), x -> boxesOf(x, 0, 1));
        taken("[0 0 0 6 3][0 6 0 18 3]", () -> withWeights(1, 9), x -> boxesOf(x, 0, 1));
        taken("[0 0 0 8 3][0 8 0 16 3]", () -> withWeights(1, 3), x -> boxesOf(x, 0, 1));
        taken("[0 0 0 12 3][0 12 0 12 3]", () -> withWeights(9, 9), x -> boxesOf(x, 0, 1));
    }

    /** One page with panels of these weights, least width 4 and height 3, behind one another. */
    private static GutterPages withWeights(int... weights) {
        GutterPages x = withPages(1);
        for (int i = 0; i < weights.length; i++) {
            x.panel(0, i, weights[i], 4, 3);
        }
        return x;
    }

    @Says(at = "Rows", value = SHARES)
    static void theWeightsOfOtherRowsDoNotCount() {
        GutterPages x = withPages(1);
        x.panel(0, 0, 9, 24, 3);
        x.panel(0, 1, 1, 12, 3);
        x.panel(0, 2, 3, 4, 3);
        x.panel(0, 3, 9, 24, 3);
        due("[1 0 3 14 3][1 14 3 10 3]", boxesOf(x, 1, 2));
    }

    @Says(at = "Rows", value = "They lie side by side, in their order from the left, or, on a page that reads from the"
        + " right, from the right.")
    static void fromTheLeftAndFromTheRight() {
        GutterPages x = withWidths(5, 4, 4, 20);
        due("[0 0 0 9 3][0 9 0 8 3][0 17 0 7 3][1 0 3 24 3]", boxesOf(x, 0, 1, 2, 3));
        x.translate(0, 1);
        due("[0 15 0 9 3][0 7 0 8 3][0 0 0 7 3][1 0 3 24 3]", boxesOf(x, 0, 1, 2, 3));
        x.translate(0, 2);
        due("[0 0 0 9 3][0 9 0 8 3][0 17 0 7 3][1 0 3 24 3]", boxesOf(x, 0, 1, 2, 3));
    }

    @Says(at = "Rows", value = "Rows lie one below the other, from the top on.")
    static void rowsBelowOneAnother() {
        taken("[0 0 0 24 12][1 0 12 24 3][2 0 15 24 7][3 0 22 24 3]", () -> withRows(12, 3, 7, 3),
            x -> boxesOf(x, 0, 1, 2, 3));
    }

    @Says(at = "Rows", value = "A panel is as wide as told, and as high as its row.")
    static void lowPanelsAreAsHighAsTheirRow() {
        GutterPages x = withPages(1);
        x.panel(0, 0, 1, 8, 3);
        x.panel(0, 1, 1, 8, 12);
        x.panel(0, 2, 1, 8, 11);
        x.panel(0, 3, 1, 8, 3);
        due("[0 0 0 8 12][0 8 0 8 12][0 16 0 8 12][1 0 12 24 3]", boxesOf(x, 0, 1, 2, 3));
    }

    @Says(at = "Rows", value = "A row is as high as the greatest of the least heights of its panels")
    static void balloonsThatFitPushNothing() {
        taken("[0 0 0 24 3]", () -> withLetters(18, 18, 18, 18), x -> boxesOf(x, 0));
        taken("[0 0 0 24 12]", () -> {
            GutterPages x = withRows(12);
            x.balloon(0, 0, 60);
            return x;
        }, x -> boxesOf(x, 0));
    }

    @Says(at = "Rows", value = LEAST)
    static void balloonsThatDoNotFitPushByOne() {
        taken("[0 0 0 24 4]", () -> withLetters(19), x -> boxesOf(x, 0));
        taken("[0 0 0 24 4]", () -> withLetters(18, 18, 18, 19), x -> boxesOf(x, 0));
    }

    @Says(at = "Rows", value = LEAST)
    static void thePanelThatNeedsMostTellsTheHeight() {
        GutterPages x = withWidths(12, 12);
        x.balloon(0, 0, 24);
        due("[0 0 0 12 4][0 12 0 12 4]", boxesOf(x, 0, 1));
        x.balloon(1, 0, 42);
        due("[0 0 0 12 7][0 12 0 12 7]", boxesOf(x, 0, 1));
        x.cutBalloon(1);
        due("[0 0 0 12 4][0 12 0 12 4]", boxesOf(x, 0, 1));
        x.cutBalloon(0);
        due("[0 0 0 12 3][0 12 0 12 3]", boxesOf(x, 0, 1));
    }

    /**
     * A face of 1 at the column 7 of a panel 14 wide. At a height of 3 the second balloon, 3 high, goes behind
     * it to column 8, and the third one is at the line 1. At 4 the second one is at the column 3, above the
     * face, and leaves the third one no room beside it; at 5 that goes below the second one.
     */
    @Says(at = "Rows", value = LEAST)
    static void aHeightAboveOneThatFitsMayNotFit() {
        for (int height = 3; height <= 6; height++) {
            GutterPages x = withPages(1);
            x.panel(0, 0, 1, 14, 3);
            x.panel(0, 1, 1, 10, height);
            x.face(0, 7, 1, 1);
            x.balloon(0, 0, 3);
            x.balloon(0, 1, 15);
            x.balloon(0, 2, 7);
            due(height == 4 ? 5 : height, x.lies(0, 4));
            due(height == 4 ? 5 : height, x.lies(1, 4));
            due(height == 3 ? "[0 8 0 6 3][0 0 1 6 2]" : "[0 3 0 6 3][0 0 3 6 2]", spotsOf(x, 1, 2));
        }
    }

    /** The first panel fits at 3 and the second one at 4, but at 4 the first one does not: the row is 5 high. */
    @Says(at = "Rows", value = LEAST)
    static void theHeightSuitsEachOfThePanels() {
        GutterPages x = withWidths(14, 10);
        x.face(0, 7, 1, 1);
        x.balloon(0, 0, 3);
        x.balloon(0, 1, 15);
        x.balloon(0, 2, 7);
        due("[0 0 0 14 3][0 14 0 10 3]", boxesOf(x, 0, 1));
        x.balloon(1, 0, 24);
        due("[0 0 0 14 5][0 14 0 10 5]", boxesOf(x, 0, 1));
        due("[0 0 0 3 1][0 3 0 6 3][0 0 3 6 2]", spotsOf(x, 0, 1, 2));
        x.cutBalloon(3);
        due("[0 0 0 14 3][0 14 0 10 3]", boxesOf(x, 0, 1));
    }

    @Says(at = "Rows", value = BEYOND)
    static void sixteenIsHighEnough() {
        GutterPages x = withWidths(4, 20);
        x.balloon(0, 0, 60);
        due(1, x.balloon(0, 1, 4));
        due("[0 0 0 4 16][0 4 0 20 16]", boxesOf(x, 0, 1));
        due("[0 0 0 4 15][0 0 15 4 1]", spotsOf(x, 0, 1));
    }

    @Says(at = "Rows", value = BEYOND)
    static void seventeenIsTooHigh() {
        refused(STATE, () -> {
            GutterPages x = withWidths(4, 20);
            x.balloon(0, 0, 60);
            return x;
        }, x -> x.balloon(0, 1, 5), x -> x.balloon(0, 0, 5));
    }

    @Says(at = "Rows", value = BEYOND)
    static void fiftyIsHighEnough() {
        taken(4, () -> withRows(12, 12, 12, 11), x -> x.panel(0, 4, 1, 24, 3));
        taken("[3 0 36 24 14]", () -> {
            GutterPages x = withRows(12, 12, 12);
            x.panel(0, 3, 1, 4, 3);
            x.panel(0, 4, 1, 20, 3);
            x.balloon(3, 0, 56);
            x.cutPanel(4);
            x.balloon(3, 1, 48);
            x.face(3, 0, 24, 4);
            return x;
        }, x -> boxesOf(x, 3));
    }

    @Says(at = "Rows", value = BEYOND)
    static void fiftyOneIsTooHigh() {
        refused(STATE, () -> withRows(12, 12, 12, 11), x -> x.panel(0, 4, 1, 24, 4));
        refused(STATE, () -> {
            GutterPages x = withRows(12, 12, 12, 3);
            x.balloon(3, 0, 60);
            return x;
        }, x -> x.face(3, 0, 24, 5), x -> x.panel(0, 4, 1, 24, 5));
        taken(14, () -> {
            GutterPages x = withRows(12, 12, 12, 3);
            x.balloon(3, 0, 60);
            return x;
        }, x -> x.face(3, 0, 24, 4));
    }

    @Says(at = "Rows", value = BEYOND)
    static void otherPagesDoNotAddToTheHeight() {
        GutterPages x = withRows(12, 12, 12, 12);
        x.page();
        due(4, x.panel(1, 0, 1, 24, 12));
        due("[0 0 0 24 12]", boxesOf(x, 4));
    }
}
