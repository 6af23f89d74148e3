/** What stands under 'Balloons in a panel', and how a tongue lets balloons grow. */
final class EdgesOfSpots extends Edges {
    private static final String SIZE = "A balloon is as wide as the least of its letters, 6, and the width of its"
        + " panel, and as high as its letters, divided by that, rounded up.";
    private static final String FACE = "A face stands at the bottom, from a column on, counted from the left from 0,"
        + " with a width and a height; its cells are those that it has within the panel.";
    private static final String SPOT = "each is placed with that corner at the top which is read first, at the first"
        + " spot that is read behind the spot of the balloon ahead of it, such that it lies within the panel, and on"
        + " no cell of a face, or of a balloon that was placed ahead of it.";
    private static final String GROWTH = "Each tongue has a growth, 100 at first: a balloon on a page of a tongue has"
        + " its letters times the growth, divided by 100, rounded up.";

    private EdgesOfSpots() {
    }

    private static String sizeOf(GutterPages x, int balloon) {
        return x.floats(balloon, 3) + "x" + x.floats(balloon, 4);
    }

    private static GutterPages inAPanel(int width, int letters) {
        GutterPages x = withWidths(width, 24 - width);
        x.balloon(0, 0, letters);
        return x;
    }

    // ---- how large a balloon is

    @Says(at = "Balloons in a panel", value = SIZE)
    static void lettersTellTheWidthUpToSix() {
        for (int letters = 1; letters <= 6; letters++) {
            due(letters + "x1", sizeOf(withLetters(letters), 0));
        }
    }

    @Says(at = "Balloons in a panel", value = SIZE)
    static void sixIsTheMostWidth() {
        due("6x2", sizeOf(withLetters(7), 0));
        due("6x2", sizeOf(withLetters(12), 0));
        due("6x3", sizeOf(withLetters(13), 0));
        due("6x9", sizeOf(withLetters(54), 0));
        due("6x10", sizeOf(withLetters(55), 0));
        due("6x10", sizeOf(withLetters(60), 0));
    }

    @Says(at = "Balloons in a panel", value = SIZE)
    static void aNarrowPanelTellsTheWidth() {
        due("3x1", sizeOf(inAPanel(4, 3), 0));
        due("4x1", sizeOf(inAPanel(4, 4), 0));
        due("4x2", sizeOf(inAPanel(4, 5), 0));
        due("4x2", sizeOf(inAPanel(4, 8), 0));
        due("4x3", sizeOf(inAPanel(4, 9), 0));
        due("4x15", sizeOf(inAPanel(4, 60), 0));
        due("5x1", sizeOf(inAPanel(5, 5), 0));
        due("5x2", sizeOf(inAPanel(5, 6), 0));
        due("5x12", sizeOf(inAPanel(5, 60), 0));
        due("6x1", sizeOf(inAPanel(6, 6), 0));
        due("6x2", sizeOf(inAPanel(6, 7), 0));
        due("6x2", sizeOf(inAPanel(7, 7), 0));
    }

    @Says(at = "Balloons in a panel", value = SIZE)
    static void theWidthIsThatWhichThePanelHasNotItsLeast() {
        GutterPages x = withWidths(4, 19);
        x.balloon(0, 0, 60);
        due("[0 0 0 5 12][0 5 0 19 12]", boxesOf(x, 0, 1));
        due("5x12", sizeOf(x, 0));
        x.cutPanel(1);
        due("6x10", sizeOf(x, 0));
    }

    @Says(at = "Terms", value = GROWTH)
    static void growthIsAHundredAtFirst() {
        for (int tongue = 0; tongue < 3; tongue++) {
            GutterPages x = withLetters(5);
            x.translate(0, tongue);
            due("5x1", sizeOf(x, 0));
            due(0, x.setGrowth(tongue, 100));
            due("5x1", sizeOf(x, 0));
        }
    }

    @Says(at = "Terms", value = GROWTH)
    static void lettersAreRoundedUp() {
        due("1 2 3 2", grownWidths(50));
        due("1 3 4 3", grownWidths(75));
        due("1 3 5 4", grownWidths(100));
        due("2 4 6 5", grownWidths(101));
        due("2 4 6 5", grownWidths(120));
        due("2 6 6 6", grownWidths(200));
    }

    /** The widths of balloons of 1, 3, 5 and 4 letters. */
    private static String grownWidths(int growth) {
        GutterPages x = withLetters(1, 3, 5, 4);
        x.setGrowth(0, growth);
        return x.floats(0, 3) + " " + x.floats(1, 3) + " " + x.floats(2, 3) + " " + x.floats(3, 3);
    }

    @Says(at = "Terms", value = GROWTH)
    static void growthTellsTheHeightToo() {
        GutterPages x = withLetters(38);
        x.setGrowth(0, 250);
        due("6x16", sizeOf(x, 0));
        x.setGrowth(0, 50);
        due("6x4", sizeOf(x, 0));
        GutterPages long60 = withLetters(60);
        long60.setGrowth(0, 160);
        due("6x16", sizeOf(long60, 0));
        long60.setGrowth(0, 50);
        due("6x5", sizeOf(long60, 0));
    }

    @Says(at = "Terms", value = "The tongues are 0 to 2. The tongues 0 and 2 read from the left, the tongue 1 from the"
        + " right.")
    static void onlyTheMiddleTongueReadsFromTheRight() {
        GutterPages x = withWidths(5, 4, 4);
        x.balloon(0, 0, 4);
        due("0 0", x.lies(0, 1) + " " + x.floats(0, 1));
        x.translate(0, 1);
        due("15 5", x.lies(0, 1) + " " + x.floats(0, 1));
        x.translate(0, 2);
        due("0 0", x.lies(0, 1) + " " + x.floats(0, 1));
    }

    // ---- faces

    @Says(at = "Balloons in a panel", value = FACE)
    static void aFaceStandsAtTheBottom() {
        GutterPages x = withWidths(4, 20);
        x.face(0, 1, 2, 2);
        due("..../.##./.##.", cellsOf(x, 0));
        x.balloon(1, 0, 30);
        due("..../..../..../.##./.##.", cellsOf(x, 0));
    }

    @Says(at = "Balloons in a panel", value = FACE)
    static void aFaceIsCountedFromTheLeftOnEachPage() {
        GutterPages x = withWidths(4, 20);
        x.face(0, 0, 1, 1);
        x.translate(0, 1);
        due("..../..../#...", cellsOf(x, 0));
        x.balloon(0, 0, 12);
        due("0000/0000/0000/#...", cellsOf(x, 0));
    }

    @Says(at = "Balloons in a panel", value = FACE)
    static void aFaceEndsWithItsPanel() {
        GutterPages x = withWidths(4, 20);
        due(3, x.face(0, 3, 24, 8));
        due("...#/...#/...#", cellsOf(x, 0));
        due(3, x.face(0, 4, 24, 8));
        due("...#/...#/...#", cellsOf(x, 0));
        due("..................../..................../....................", cellsOf(x, 1));
        GutterPages broad = withWidths(24);
        broad.face(0, 1, 24, 1);
        due("......................../......................../.#######################", cellsOf(broad, 0));
    }

    @Says(at = "Balloons in a panel", value = FACE)
    static void aFaceBeyondItsPanelIsInNobodysWay() {
        GutterPages x = withWidths(4, 20);
        x.face(0, 4, 20, 8);
        x.face(0, 23, 24, 8);
        due(0, x.balloon(0, 0, 12));
        due("0000/0000/0000", cellsOf(x, 0));
        due(1, x.balloon(1, 0, 60));
        due("[1 0 0 6 10]", spotsOf(x, 1));
    }

    @Says(at = "Balloons in a panel", value = FACE)
    static void aWiderPanelShowsMoreOfAFace() {
        GutterPages x = withWidths(4, 20);
        x.face(0, 3, 2, 1);
        due("..../..../...#", cellsOf(x, 0));
        x.cutPanel(1);
        due("......................../......................../...##...................", cellsOf(x, 0));
    }

    @Says(at = "Balloons in a panel", value = FACE)
    static void twoFacesMayOverlap() {
        GutterPages x = withWidths(4, 20);
        x.face(0, 0, 3, 2);
        x.face(0, 1, 3, 1);
        due("..../###./####", cellsOf(x, 0));
        x.balloon(0, 0, 5);
        due("0000/0000/###./####", cellsOf(x, 0));
    }

    // ---- where a balloon is placed

    @Says(at = "Balloons in a panel", value = SPOT)
    static void aLineIsFilledToItsLastColumn() {
        taken("[0 0 0 6 1][0 6 0 6 1][0 12 0 6 1][0 18 0 6 1]", () -> withLetters(6, 6, 6, 6),
            x -> spotsOf(x, 0, 1, 2, 3));
        taken("[0 0 0 6 1][0 6 0 6 1][0 12 0 6 1][0 0 1 6 1]", () -> {
            GutterPages x = withWidths(24);
            x.face(0, 23, 1, 3);
            for (int i = 0; i < 4; i++) {
                x.balloon(0, i, 6);
            }
            return x;
        }, x -> spotsOf(x, 0, 1, 2, 3));
        GutterPages narrow = withWidths(11, 13);
        narrow.balloon(0, 0, 6);
        narrow.balloon(0, 1, 5);
        due("[0 0 0 6 1][0 6 0 5 1]", spotsOf(narrow, 0, 1));
        narrow.cutBalloon(1);
        narrow.balloon(0, 1, 6);
        due("[0 0 1 6 1]", spotsOf(narrow, 2));
    }

    @Says(at = "Balloons in a panel", value = SPOT)
    static void aLineIsFilledToItsLastColumnFromTheRight() {
        GutterPages x = withLetters(6, 6, 6, 6);
        x.translate(0, 1);
        due("[0 18 0 6 1][0 12 0 6 1][0 6 0 6 1][0 0 0 6 1]", spotsOf(x, 0, 1, 2, 3));
        GutterPages narrow = withWidths(11, 13);
        narrow.translate(0, 1);
        narrow.balloon(0, 0, 6);
        narrow.balloon(0, 1, 5);
        narrow.balloon(0, 2, 3);
        due("[0 5 0 6 1][0 0 0 5 1][0 8 1 3 1]", spotsOf(narrow, 0, 1, 2));
        narrow.cutBalloon(2);
        narrow.cutBalloon(1);
        narrow.balloon(0, 1, 6);
        due("[0 5 1 6 1]", spotsOf(narrow, 3));
    }

    @Says(at = "Balloons in a panel", value = "Spots are read line by line, from the top, in a line from the side from"
        + " which the page reads.")
    static void lineByLineFromTheSideOfTheTongue() {
        GutterPages x = withWidths(4, 20);
        x.balloon(0, 0, 3);
        x.balloon(0, 1, 1);
        x.balloon(0, 2, 2);
        x.balloon(0, 3, 3);
        due("0001/22../333.", cellsOf(x, 0));
        x.translate(0, 1);
        due("1000/..22/.333", cellsOf(x, 0));
        x.translate(0, 2);
        due("0001/22../333.", cellsOf(x, 0));
    }

    @Says(at = "Balloons in a panel", value = SPOT)
    static void theFirstSpotOfAllIsTheCorner() {
        taken("[0 0 0 1 1][0 1 0 1 1][0 2 0 1 1][0 3 0 1 1]", () -> withLetters(1, 1, 1, 1),
            x -> spotsOf(x, 0, 1, 2, 3));
        taken("[0 23 0 1 1][0 22 0 1 1][0 21 0 1 1][0 20 0 1 1]", () -> {
            GutterPages x = withLetters(1, 1, 1, 1);
            x.translate(0, 1);
            return x;
        }, x -> spotsOf(x, 0, 1, 2, 3));
    }

    @Says(at = "Balloons in a panel", value = SPOT)
    static void noHoleAheadIsFilled() {
        // The third one would have room at the column 6 of the line 0, ahead of the second one.
        GutterPages x = withWidths(8, 16);
        x.balloon(0, 0, 12);
        x.balloon(0, 1, 6);
        x.balloon(0, 2, 2);
        due("000000../000000../11111122", cellsOf(x, 0));
        x.translate(0, 1);
        due("..000000/..000000/22111111", cellsOf(x, 0));
    }

    @Says(at = "Balloons in a panel", value = SPOT)
    static void noHoleAheadInTheSameLineIsFilled() {
        // The second one would have room ahead of the face, but the first one is behind that.
        GutterPages x = withWidths(12, 12);
        x.face(0, 2, 1, 8);
        x.balloon(0, 0, 6);
        x.balloon(0, 1, 2);
        due("..#00000011./..#........./..#.........", cellsOf(x, 0));
        x.balloon(0, 2, 2);
        due("..#00000011./22#........./..#.........", cellsOf(x, 0));
        GutterPages right = withWidths(12, 12);
        right.translate(0, 1);
        right.face(0, 9, 1, 8);
        right.balloon(0, 0, 6);
        right.balloon(0, 1, 2);
        right.balloon(0, 2, 2);
        due(".11000000#../.........#22/.........#..", cellsOf(right, 0));
    }

    @Says(at = "Balloons in a panel", value = SPOT)
    static void aHoleBehindIsFilled() {
        GutterPages x = withWidths(8, 16);
        x.face(0, 0, 1, 3);
        x.balloon(0, 0, 18);
        x.balloon(0, 1, 1);
        x.balloon(0, 2, 1);
        x.balloon(0, 3, 1);
        due("#0000001/#0000002/#0000003", cellsOf(x, 0));
    }

    @Says(at = "Balloons in a panel", value = SPOT)
    static void noBalloonOnOneFarAhead() {
        // The third one may not lie on the first one, though its spot is behind that of the second one.
        GutterPages x = withWidths(8, 16);
        x.balloon(0, 0, 18);
        x.balloon(0, 1, 2);
        x.balloon(0, 2, 6);
        x.balloon(0, 3, 2);
        due("00000011/000000../000000../22222233", cellsOf(x, 0));
    }

    @Says(at = "Balloons in a panel", value = SPOT)
    static void noBalloonOnAFace() {
        GutterPages x = withWidths(8, 16);
        x.face(0, 0, 1, 1);
        x.balloon(0, 0, 18);
        due(".000000./.000000./#000000.", cellsOf(x, 0));
        GutterPages right = withWidths(8, 16);
        right.translate(0, 1);
        right.face(0, 7, 1, 1);
        right.balloon(0, 0, 18);
        due(".000000./.000000./.000000#", cellsOf(right, 0));
        GutterPages between = withWidths(9, 15);
        between.face(0, 0, 1, 8);
        between.face(0, 7, 1, 8);
        between.balloon(0, 0, 6);
        between.balloon(0, 1, 1);
        due("#000000#1/#......#./#......#.", cellsOf(between, 0));
    }

    @Says(at = "Balloons in a panel", value = SPOT)
    static void aBalloonEndsAtTheLastLine() {
        taken("000000../000000../000000..", () -> inAPanel(8, 18), x -> cellsOf(x, 0));
        taken("000000../000000../000000../000000..", () -> inAPanel(8, 19), x -> cellsOf(x, 0));
        taken("000000../000000../111111..", () -> last8(12, 6), x -> cellsOf(x, 0));
        taken("000000../000000../111111../111111..", () -> last8(12, 7), x -> cellsOf(x, 0));
    }

    private static GutterPages last8(int first, int second) {
        GutterPages x = inAPanel(8, first);
        x.balloon(0, 1, second);
        return x;
    }

    @Says(at = "Balloons in a panel", value = "The balloons of a panel are placed in their order")
    static void theOrderTellsThePlaces() {
        GutterPages x = withLetters(3, 2, 1);
        due("[0 0 0 3 1][0 3 0 2 1][0 5 0 1 1]", spotsOf(x, 0, 1, 2));
        x.balloon(0, 0, 6);
        due("[0 0 0 6 1][0 6 0 3 1][0 9 0 2 1][0 11 0 1 1]", spotsOf(x, 3, 0, 1, 2));
        moveBalloon(x, 3, 0, 3);
        due("[0 0 0 3 1][0 3 0 2 1][0 5 0 1 1][0 6 0 6 1]", spotsOf(x, 0, 1, 2, 3));
    }
}
