/** Each promise by hand: ordinary inputs, the edges that the document names, and wrong inputs. */
public final class PromiseTests extends Houses {
    private PromiseTests() {
    }

    private static void failsUnchanged(GutterPages x, String exception, Check.Call... calls) {
        Check.failsUnchanged(x, exception, calls);
    }

    private static void promise1() {
        GutterPages x = new GutterPages();
        due(0, x.pages());
        due(0, x.balloons());
        due(-1, x.here());
        due(0, x.leaves(16));
        fails(INDEX, () -> x.panels(0));
        fails(INDEX, () -> x.lies(0, 0));
        fails(INDEX, () -> x.floats(0, 0));
        fails(INDEX, () -> x.read(0));
        due(-1, x.open());
        due(-1, x.forth());
        due(-1, x.back());
        GutterPages other = new GutterPages();
        x.page();
        due(0, other.pages());
    }

    private static void promise2() {
        GutterPages x = new GutterPages();
        for (int i = 0; i < 10; i++) {
            due(i, x.page());
            due(i + 1, x.pages());
            due(0, x.panels(i));
        }
        failsUnchanged(x, STATE, () -> x.page());
        due(10, x.pages());
    }

    private static void promise3() {
        GutterPages x = withPages(2);
        due(0, x.panel(0, 0, 1, 6, 3));
        due(1, x.panel(0, 1, 3, 6, 3));
        due(2, x.panel(0, 1, 2, 6, 4));
        due("0 2 1", x.panelAt(0, 0) + " " + x.panelAt(0, 1) + " " + x.panelAt(0, 2));
        due("[0 0 0 7 4]", Check.boxOf(x, 0));
        due("[0 7 0 8 4]", Check.boxOf(x, 2));
        due("[0 15 0 9 4]", Check.boxOf(x, 1));
        due(3, x.panel(1, 0, 9, 24, 12));
        failsUnchanged(x, INDEX, () -> x.panel(-1, 0, 1, 4, 3), () -> x.panel(2, 0, 1, 4, 3),
            () -> x.panel(HIGH, 0, 1, 4, 3), () -> x.panel(LOW, 0, 1, 4, 3), () -> x.panel(0, -1, 1, 4, 3),
            () -> x.panel(0, 4, 1, 4, 3));
        fails(INDEX, () -> x.panel(0, 4, 0, 0, 0));
        fails(ARGUMENT, () -> x.panel(0, 0, 0, 4, 3));
        fails(ARGUMENT, () -> x.panel(0, 0, 10, 4, 3));
        fails(ARGUMENT, () -> x.panel(0, 0, 1, 3, 3));
        fails(ARGUMENT, () -> x.panel(0, 0, 1, 25, 3));
        fails(ARGUMENT, () -> x.panel(0, 0, 1, 4, 2));
        failsUnchanged(x, ARGUMENT, () -> x.panel(0, 0, 1, 4, 13));
        due(4, x.panel(0, 3, 1, 24, 3));
    }

    private static void promise3Limits() {
        GutterPages full = withWidths(4, 4, 4, 4, 4, 4, 4, 4);
        due(2, full.rows(0));
        failsUnchanged(full, STATE, () -> full.panel(0, 8, 1, 4, 3));
        fails(INDEX, () -> full.panel(0, 9, 1, 4, 3));
        fails(ARGUMENT, () -> full.panel(0, 8, 10, 4, 3));
        GutterPages many = withPages(7);
        for (int i = 0; i < 50; i++) {
            due(i, many.panel(i / 8, 0, 1, 4, 3));
        }
        fails(STATE, () -> many.panel(6, 0, 1, 4, 3));
        due(0, many.cutPanel(49));
        fails(STATE, () -> many.panel(6, 0, 1, 4, 3));
        due(1, many.panels(6));
    }

    private static void promise3Heights() {
        GutterPages high = withRows(12, 12, 12, 12);
        failsUnchanged(high, STATE, () -> high.panel(0, 4, 1, 24, 3), () -> high.panel(0, 0, 1, 24, 3));
        GutterPages just = withRows(12, 12, 12, 11);
        due(4, just.panel(0, 4, 1, 24, 3));
        due("[4 0 47 24 3]", Check.boxOf(just, 4));
        GutterPages tight = withWidths(20);
        for (int i = 0; i < 4; i++) {
            tight.balloon(0, i, 60);
        }
        failsUnchanged(tight, STATE, () -> tight.panel(0, 1, 1, 4, 3), () -> tight.panel(0, 0, 1, 4, 3));
        due(1, tight.panel(0, 0, 1, 5, 3));
    }

    /** What stands under 'Rows': which panels are of a row, and how wide each of them is. */
    private static void promise3Rows() {
        GutterPages exact = withWidths(8, 8, 8, 12, 12, 24, 23);
        due(4, exact.rows(0));
        due("[0 16 0 8 3]", Check.boxOf(exact, 2));
        due("[1 0 3 12 3]", Check.boxOf(exact, 3));
        due("[1 12 3 12 3]", Check.boxOf(exact, 4));
        due("[2 0 6 24 3]", Check.boxOf(exact, 5));
        due("[3 0 9 24 3]", Check.boxOf(exact, 6));
        GutterPages rest = withPages(1);
        rest.panel(0, 0, 9, 5, 3);
        rest.panel(0, 1, 9, 4, 5);
        rest.panel(0, 2, 9, 4, 4);
        due("[0 0 0 9 5]", Check.boxOf(rest, 0));
        due("[0 9 0 8 5]", Check.boxOf(rest, 1));
        due("[0 17 0 7 5]", Check.boxOf(rest, 2));
        GutterPages weights = withPages(1);
        weights.panel(0, 0, 1, 4, 3);
        weights.panel(0, 1, 9, 4, 3);
        due("[0 0 0 6 3]", Check.boxOf(weights, 0));
        due("[0 6 0 18 3]", Check.boxOf(weights, 1));
    }

    private static void promise4() {
        GutterPages x = withWidths(6, 7, 8);
        due("[0 0 0 7 3][0 7 0 8 3][0 15 0 9 3]", Check.boxOf(x, 0) + Check.boxOf(x, 1) + Check.boxOf(x, 2));
        due(0, x.movePanel(1, 1));
        due(3, x.movePanel(2, 0));
        due("2 0 1", x.panelAt(0, 0) + " " + x.panelAt(0, 1) + " " + x.panelAt(0, 2));
        due("[0 0 0 9 3][0 9 0 7 3][0 16 0 8 3]", Check.boxOf(x, 2) + Check.boxOf(x, 0) + Check.boxOf(x, 1));
        due(2, x.movePanel(0, 2));
        due("2 1 0", x.panelAt(0, 0) + " " + x.panelAt(0, 1) + " " + x.panelAt(0, 2));
        failsUnchanged(x, INDEX, () -> x.movePanel(-1, 0), () -> x.movePanel(3, 0), () -> x.movePanel(0, -1),
            () -> x.movePanel(0, 3), () -> x.movePanel(0, HIGH));
        x.cutPanel(1);
        fails(INDEX, () -> x.movePanel(1, 0));
        fails(INDEX, () -> x.movePanel(0, 2));
        GutterPages wide = withWideBalloons();
        failsUnchanged(wide, STATE, () -> wide.movePanel(2, 0), () -> wide.movePanel(1, 0));
        due(3, wide.movePanel(0, 2));
    }

    /** A panel whose row alone is another one does not count, nor does one that lies as before. */
    private static void promise4Counts() {
        GutterPages x = withWidths(24, 12, 12);
        due(3, x.movePanel(0, 2));
        due("[0 0 0 12 3][0 12 0 12 3][1 0 3 24 3]", Check.boxOf(x, 1) + Check.boxOf(x, 2) + Check.boxOf(x, 0));
        GutterPages same = withWidths(12, 12, 24);
        due(2, same.movePanel(0, 1));
        due("[1 0 3 24 3]", Check.boxOf(same, 2));
        GutterPages row = withWidths(12, 24, 12, 24);
        row.balloon(0, 0, 18);
        row.balloon(0, 1, 18);
        row.balloon(0, 2, 18);
        due("[3 0 9 24 3]", Check.boxOf(row, 3));
        due(3, row.movePanel(2, 1));
        due("[2 0 9 24 3]", Check.boxOf(row, 3));
        GutterPages answers = withWidths(24, 24);
        answers.balloon(0, 0, 5);
        answers.balloon(1, 0, 5);
        answers.answer(1, 0);
        failsUnchanged(answers, STATE, () -> answers.movePanel(0, 1), () -> answers.movePanel(1, 0));
        answers.answer(1, -1);
        due(2, answers.movePanel(0, 1));
        due("1 0", answers.read(0) + " " + answers.read(1));
    }

    private static void promise5() {
        GutterPages x = withWidths(12, 12, 24);
        x.balloon(0, 0, 3);
        x.balloon(0, 1, 3);
        x.balloon(1, 0, 3);
        x.balloon(2, 0, 3);
        x.answer(1, 0);
        x.answer(2, 1);
        failsUnchanged(x, STATE, () -> x.cutPanel(0));
        x.answer(2, -1);
        due(2, x.cutPanel(0));
        due(2, x.balloons());
        due(2, x.panels(0));
        due("[0 0 0 24 3][1 0 3 24 3]", Check.boxOf(x, 1) + Check.boxOf(x, 2));
        failsUnchanged(x, INDEX, () -> x.cutPanel(0), () -> x.cutPanel(-1), () -> x.cutPanel(3),
            () -> x.cutPanel(HIGH));
        fails(INDEX, () -> x.floats(0, 0));
        fails(INDEX, () -> x.placeOf(1));
        fails(INDEX, () -> x.cell(0, 0, 0));
        due(1, x.cutPanel(2));
        due(1, x.cutPanel(1));
        due(0, x.rows(0));
        due(3, x.panel(0, 0, 1, 4, 3));
        due(0, x.cutPanel(3));
        GutterPages wide = withWideBalloons();
        failsUnchanged(wide, STATE, () -> wide.cutPanel(1));
        due(0, wide.cutPanel(2));
        due(4, wide.cutPanel(0));
    }

    private static void promise6() {
        GutterPages x = withWidths(8, 16, 24);
        x.balloon(0, 0, 6);
        x.balloon(0, 1, 12);
        due("[0 0 0 8 3]", Check.boxOf(x, 0));
        due(5, x.face(0, 0, 8, 2));
        due("[0 8 0 16 5][1 0 5 24 3]", Check.boxOf(x, 1) + Check.boxOf(x, 2));
        due(5, x.face(0, 23, 24, 8));
        failsUnchanged(x, STATE, () -> x.face(0, 0, 1, 1));
        fails(ARGUMENT, () -> x.face(0, 24, 1, 1));
        due(5, x.face(1, 2, 3, 8));
        due("-1 -2 -2 -1", x.cell(1, 1, 0) + " " + x.cell(1, 2, 0) + " " + x.cell(1, 4, 4) + " " + x.cell(1, 5, 4));
        failsUnchanged(x, ARGUMENT, () -> x.face(1, -1, 1, 1), () -> x.face(1, 24, 1, 1), () -> x.face(1, 0, 0, 1),
            () -> x.face(1, 0, 25, 1), () -> x.face(1, 0, 1, 0), () -> x.face(1, 0, 1, 9));
        failsUnchanged(x, INDEX, () -> x.face(-1, -1, 1, 1), () -> x.face(3, 0, 1, 9));
        x.cutPanel(1);
        fails(INDEX, () -> x.face(1, 0, 1, 1));
        due(3, x.face(2, 0, 24, 1));
        due(3, x.face(2, 23, 1, 8));
    }

    private static void promise6Room() {
        GutterPages x = withWidths(24);
        x.balloon(0, 0, 60);
        x.balloon(0, 1, 48);
        due(10, x.lies(0, 4));
        failsUnchanged(x, STATE, () -> x.face(0, 0, 24, 7));
        due(16, x.face(0, 0, 24, 6));
        failsUnchanged(x, STATE, () -> x.face(0, 0, 24, 7));
        due(16, x.face(0, 12, 12, 8));
        due("[0 0 0 6 10][0 6 0 6 8]", Check.spotOf(x, 0) + Check.spotOf(x, 1));
        GutterPages page = withRows(12, 12, 12, 3, 11);
        page.balloon(3, 0, 18);
        failsUnchanged(page, STATE, () -> page.face(3, 0, 24, 1));
        due(3, page.face(3, 0, 18, 1));
        due("[3 18 0 6 3]", Check.spotOf(page, 0));
    }

    private static void promise7() {
        GutterPages x = withWidths(8, 16);
        due(0, x.balloon(0, 0, 6));
        due("[0 0 0 6 1]", Check.spotOf(x, 0));
        due(1, x.balloon(0, 1, 12));
        due("[0 0 1 6 2]", Check.spotOf(x, 1));
        due(2, x.balloon(0, 0, 7));
        due("[0 0 0 6 2][0 0 2 6 1][0 0 3 6 2]", Check.spotOf(x, 2) + Check.spotOf(x, 0) + Check.spotOf(x, 1));
        due("[0 0 0 8 5]", Check.boxOf(x, 0));
        due(3, x.balloon(0, 2, 2));
        due("[0 6 2 2 1]", Check.spotOf(x, 3));
        fails(STATE, () -> x.balloon(0, 4, 1));
        fails(INDEX, () -> x.balloon(0, 5, 1));
        fails(ARGUMENT, () -> x.balloon(0, 4, 0));
        failsUnchanged(x, INDEX, () -> x.balloon(1, 1, 0), () -> x.balloon(1, -1, 1), () -> x.balloon(2, 0, 1),
            () -> x.balloon(-1, 0, 1));
        failsUnchanged(x, ARGUMENT, () -> x.balloon(1, 0, 0), () -> x.balloon(1, 0, 61), () -> x.balloon(1, 0, HIGH));
        due(4, x.balloon(1, 0, 60));
        due("[1 0 0 6 10]", Check.spotOf(x, 4));
        due("[0 0 0 8 10]", Check.boxOf(x, 0));
        x.cutPanel(1);
        fails(INDEX, () -> x.balloon(1, 0, 1));
    }

    private static void promise7Limits() {
        GutterPages many = withPages(3);
        for (int i = 0; i < 21; i++) {
            many.panel(i / 8, 0, 1, 4, 3);
        }
        for (int i = 0; i < 80; i++) {
            due(i, many.balloon(i / 4, i % 4, 1));
        }
        fails(STATE, () -> many.balloon(20, 0, 1));
        due(19, many.cutBalloon(79));
        fails(STATE, () -> many.balloon(20, 0, 1));
        due(79, many.balloons());
        GutterPages high = withRows(12, 12, 12, 11, 3);
        failsUnchanged(high, STATE, () -> high.balloon(4, 0, 19));
        due(0, high.balloon(4, 0, 18));
        high.setGrowth(0, 50);
        GutterPages steep = withWidths(24);
        steep.setGrowth(0, 250);
        failsUnchanged(steep, STATE, () -> steep.balloon(0, 0, 39));
        due(0, steep.balloon(0, 0, 38));
        due("[0 0 0 6 16]", Check.spotOf(steep, 0));
        GutterPages narrow = withWidths(4, 20);
        narrow.balloon(0, 0, 9);
        due("[0 0 0 4 3]", Check.spotOf(narrow, 0));
        failsUnchanged(narrow, STATE, () -> narrow.balloon(0, 1, 53));
        due(1, narrow.balloon(0, 1, 52));
        due("[0 0 0 4 16]", Check.boxOf(narrow, 0));
    }

    /** What stands under 'Balloons in a panel', read from the left and from the right. */
    private static void promise7Spots() {
        GutterPages x = withWidths(24);
        putFourAndAFace(x, 0);
        due("[0 0 0 5 1][0 8 0 6 3][0 14 0 6 2][0 20 0 2 1]", spotsOf(x, 0, 1, 2, 3));
        due("[0 0 0 24 3]", Check.boxOf(x, 0));
        due(1, x.translate(0, 1));
        due("[0 19 0 5 1][0 13 0 6 3][0 18 3 6 2][0 16 3 2 1]", spotsOf(x, 0, 1, 2, 3));
        due("[0 0 0 24 5]", Check.boxOf(x, 0));
        GutterPages hole = withWidths(24);
        hole.face(0, 3, 1, 8);
        hole.face(0, 20, 1, 8);
        hole.balloon(0, 0, 6);
        hole.balloon(0, 1, 2);
        due("[0 4 0 6 1][0 10 0 2 1]", spotsOf(hole, 0, 1));
        hole.translate(0, 1);
        due("[0 14 0 6 1][0 12 0 2 1]", spotsOf(hole, 0, 1));
        GutterPages behind = withWidths(8, 16);
        behind.balloon(0, 0, 12);
        behind.balloon(0, 1, 6);
        behind.balloon(0, 2, 2);
        due("[0 0 0 6 2][0 0 2 6 1][0 6 2 2 1]", spotsOf(behind, 0, 1, 2));
    }

    private static void putFourAndAFace(GutterPages x, int panel) {
        x.face(panel, 5, 3, 8);
        x.balloon(panel, 0, 5);
        x.balloon(panel, 1, 13);
        x.balloon(panel, 2, 9);
        x.balloon(panel, 3, 2);
    }

    /** The balloons fit at the heights 3 and 5, but not at 4, where the second one is in the third's way. */
    private static void promise7Heights() {
        for (int height = 3; height <= 6; height++) {
            GutterPages x = withPages(1);
            x.panel(0, 0, 1, 14, 3);
            x.panel(0, 1, 1, 10, height);
            x.face(0, 7, 1, 1);
            x.balloon(0, 0, 3);
            x.balloon(0, 1, 15);
            x.balloon(0, 2, 7);
            due(height == 4 ? 5 : height, x.lies(0, 4));
            due(height == 4 ? 5 : height, x.lies(1, 4));
            due(height == 3 ? "[0 8 0 6 3][0 0 1 6 2]" : "[0 3 0 6 3][0 0 3 6 2]", spotsOf(x, 1, 2));
        }
    }

    private static void promise8() {
        GutterPages x = withWidths(12, 12, 24);
        x.balloon(0, 0, 6);
        x.balloon(0, 1, 12);
        x.balloon(1, 0, 3);
        x.moveBalloon(0, 0, 1);
        due("[0 0 0 6 2][0 6 0 6 1]", spotsOf(x, 1, 0));
        x.moveBalloon(0, 1, 0);
        due("[0 0 0 6 2][1 0 0 6 1][1 6 0 3 1]", spotsOf(x, 1, 0, 2));
        due("1 0 2", x.read(0) + " " + x.read(1) + " " + x.read(2));
        x.moveBalloon(0, 1, 1);
        due("[1 0 0 3 1][1 3 0 6 1]", spotsOf(x, 2, 0));
        failsUnchanged(x, INDEX, () -> moveBalloon(x, 0, 1, 2), () -> moveBalloon(x, 0, 1, -1),
            () -> moveBalloon(x, 0, 2, 1), () -> moveBalloon(x, 0, 2, -1), () -> moveBalloon(x, -1, 2, 0),
            () -> moveBalloon(x, 3, 2, 0), () -> moveBalloon(x, 0, -1, 0), () -> moveBalloon(x, 0, 3, 0));
        x.moveBalloon(1, 1, 2);
        due("[1 0 0 3 1][1 3 0 6 1][1 0 1 6 2]", spotsOf(x, 2, 0, 1));
        x.cutBalloon(2);
        failsUnchanged(x, INDEX, () -> moveBalloon(x, 2, 0, 0));
        x.cutPanel(0);
        failsUnchanged(x, INDEX, () -> moveBalloon(x, 0, 0, 0));
    }

    private static void promise8Limits() {
        GutterPages x = withWidths(24, 24);
        for (int i = 0; i < 4; i++) {
            x.balloon(0, i, 1);
        }
        x.balloon(1, 0, 1);
        failsUnchanged(x, STATE, () -> moveBalloon(x, 4, 0, 0), () -> moveBalloon(x, 4, 0, 4));
        failsUnchanged(x, INDEX, () -> moveBalloon(x, 4, 0, 5), () -> moveBalloon(x, 0, 0, 4));
        due("moved", moveBalloon(x, 0, 0, 3));
        due("1 2 3 0 4", x.read(0) + " " + x.read(1) + " " + x.read(2) + " " + x.read(3) + " " + x.read(4));
        x.answer(0, 3);
        x.answer(4, 0);
        failsUnchanged(x, STATE, () -> moveBalloon(x, 0, 0, 2), () -> moveBalloon(x, 0, 1, 1),
            () -> moveBalloon(x, 3, 1, 0));
        due("moved", moveBalloon(x, 0, 1, 0));
        fails(STATE, () -> moveBalloon(x, 4, 0, 0));
        due("moved", moveBalloon(x, 1, 1, 2));
        due("2 3 0 4 1", x.read(0) + " " + x.read(1) + " " + x.read(2) + " " + x.read(3) + " " + x.read(4));
    }

    private static void promise8Pages() {
        GutterPages x = withTightBalloons();
        x.page();
        x.panel(1, 0, 1, 24, 3);
        failsUnchanged(x, STATE, () -> moveBalloon(x, 0, 5, 0), () -> moveBalloon(x, 0, 6, 0));
        due("moved", moveBalloon(x, 3, 6, 0));
        due("[6 0 0 2 1]", Check.spotOf(x, 3));
        due(4, x.balloon(6, 0, 30));
        due("[0 0 0 24 5]", Check.boxOf(x, 6));
        failsUnchanged(x, STATE, () -> moveBalloon(x, 4, 5, 0));
        due("moved", moveBalloon(x, 4, 0, 0));
        due("[0 0 0 24 3]", Check.boxOf(x, 6));
        due("[0 0 0 6 5]", Check.spotOf(x, 4));
    }

    /** The first balloon of all is read last and answers. */
    private static void promise8FirstAnswers() {
        GutterPages x = withWidths(24, 24);
        x.balloon(1, 0, 3);
        x.balloon(0, 0, 3);
        x.answer(0, 1);
        Check.promise(4);
        failsUnchanged(x, STATE, () -> x.movePanel(1, 0));
        Check.promise(5);
        failsUnchanged(x, STATE, () -> x.cutPanel(0));
        Check.promise(8);
        failsUnchanged(x, STATE, () -> moveBalloon(x, 0, 0, 0));
        due("moved", moveBalloon(x, 0, 0, 1));
        Check.promise(9);
        failsUnchanged(x, STATE, () -> x.cutBalloon(1));
        due(0, x.cutBalloon(0));
        due(0, x.cutBalloon(1));
    }

    private static void promise9() {
        GutterPages x = withWidths(24, 24);
        x.balloon(0, 0, 6);
        x.balloon(1, 0, 6);
        x.balloon(1, 1, 6);
        x.balloon(1, 2, 30);
        x.answer(1, 0);
        x.answer(2, 1);
        failsUnchanged(x, STATE, () -> x.cutBalloon(0), () -> x.cutBalloon(1));
        due(5, x.lies(1, 4));
        due(1, x.cutBalloon(3));
        due(3, x.lies(1, 4));
        due(1, x.cutBalloon(2));
        failsUnchanged(x, INDEX, () -> x.cutBalloon(2), () -> x.cutBalloon(-1), () -> x.cutBalloon(4),
            () -> x.cutBalloon(LOW));
        due(1, x.cutBalloon(1));
        due(0, x.cutBalloon(0));
        due(0, x.balloons());
        due(4, x.balloon(0, 0, 1));
        GutterPages tight = withTightBalloons();
        due(3, tight.lies(4, 4));
        failsUnchanged(tight, STATE, () -> tight.cutBalloon(0));
        due(4, tight.cutBalloon(3));
        due(4, tight.cutBalloon(0));
    }

    private static void promise10() {
        GutterPages x = withPages(2);
        x.panel(0, 0, 1, 12, 3);
        x.panel(0, 1, 1, 12, 3);
        x.panel(1, 0, 1, 24, 3);
        x.balloon(0, 0, 3);
        x.balloon(0, 1, 3);
        x.balloon(1, 0, 3);
        x.balloon(2, 0, 3);
        due(-1, x.answer(3, 0));
        due(0, x.answer(3, 1));
        due(1, x.answer(3, 2));
        due(2, x.answer(3, -1));
        due(-1, x.answer(3, -1));
        due(-1, x.answer(1, 0));
        due(-1, x.answer(2, 1));
        failsUnchanged(x, STATE, () -> x.answer(2, 3), () -> x.answer(0, 0), () -> x.answer(0, 1),
            () -> x.answer(1, 2), () -> x.answer(2, 2));
        failsUnchanged(x, INDEX, () -> x.answer(-1, 0), () -> x.answer(4, 0), () -> x.answer(0, 4),
            () -> x.answer(0, -2), () -> x.answer(0, LOW), () -> x.answer(4, -1));
        due(1, x.answer(2, 0));
        x.cutBalloon(3);
        failsUnchanged(x, INDEX, () -> x.answer(3, 0), () -> x.answer(2, 3));
        due(0, x.answer(2, -1));
    }

    private static void promise11() {
        GutterPages x = withWidths(6, 7, 8, 24);
        due(3, x.translate(0, 1));
        due("[0 17 0 7 3][0 9 0 8 3][0 0 0 9 3][1 0 3 24 3]",
            Check.boxOf(x, 0) + Check.boxOf(x, 1) + Check.boxOf(x, 2) + Check.boxOf(x, 3));
        due("0 1 2", x.panelAt(0, 0) + " " + x.panelAt(0, 1) + " " + x.panelAt(0, 2));
        due(0, x.translate(0, 1));
        due(3, x.translate(0, 2));
        due("[0 0 0 7 3]", Check.boxOf(x, 0));
        due(0, x.translate(0, 0));
        due(2, withWidths(8, 8, 8).translate(0, 1));
        failsUnchanged(x, INDEX, () -> x.translate(-1, 0), () -> x.translate(1, 3));
        failsUnchanged(x, ARGUMENT, () -> x.translate(0, -1), () -> x.translate(0, 3), () -> x.translate(0, HIGH));
        x.balloon(0, 0, 12);
        due(0, x.setGrowth(2, 200));
        due(4, x.translate(0, 2));
        due("[0 0 0 6 4]", Check.spotOf(x, 0));
        due(4, x.translate(0, 0));
        x.balloon(3, 0, 60);
        failsUnchanged(x, STATE, () -> x.translate(0, 2));
        due(3, x.translate(0, 1));
        GutterPages high = withRows(12, 12, 12, 11, 3);
        putFourAndAFace(high, 4);
        failsUnchanged(high, STATE, () -> high.translate(0, 1));
        due(0, high.translate(0, 2));
    }

    private static void promise12() {
        GutterPages x = withPages(2);
        x.panel(0, 0, 1, 24, 3);
        x.panel(0, 1, 1, 24, 3);
        x.panel(1, 0, 1, 24, 3);
        x.translate(1, 1);
        x.balloon(0, 0, 12);
        x.balloon(2, 0, 12);
        due(0, x.setGrowth(0, 150));
        due("[0 0 0 6 3][2 18 0 6 2]", spotsOf(x, 0, 1));
        due(2, x.setGrowth(0, 151));
        due("[0 0 0 6 4]", Check.spotOf(x, 0));
        due(0, x.setGrowth(0, 151));
        due(1, x.setGrowth(1, 250));
        due("[2 18 0 6 5]", Check.spotOf(x, 1));
        due(0, x.setGrowth(2, 50));
        due(2, x.translate(0, 2));
        due(2, x.setGrowth(2, 250));
        due(1, x.translate(1, 0));
        due(1, x.setGrowth(0, 250));
        due(3, x.translate(0, 0) + x.setGrowth(0, 50));
        failsUnchanged(x, ARGUMENT, () -> x.setGrowth(-1, 100), () -> x.setGrowth(3, 100), () -> x.setGrowth(0, 49),
            () -> x.setGrowth(0, 251), () -> x.setGrowth(HIGH, LOW));
        x.balloon(2, 1, 60);
        failsUnchanged(x, STATE, () -> x.setGrowth(0, 161));
        due(3, x.setGrowth(0, 160));
        due("[0 0 0 6 4][2 6 0 6 16]", spotsOf(x, 0, 2));
        fails(STATE, () -> x.setGrowth(0, 250));
        x.balloon(1, 0, 15);
        due("[1 0 0 6 4]", Check.spotOf(x, 3));
    }

    private static void promise12Roundings() {
        GutterPages x = withWidths(24);
        x.balloon(0, 0, 1);
        x.balloon(0, 1, 3);
        x.balloon(0, 2, 5);
        x.balloon(0, 3, 4);
        x.setGrowth(0, 50);
        due("1 2 3 2", widthsOf(x));
        due("1 1", x.floats(0, 4) + " " + x.floats(1, 4));
        x.setGrowth(0, 75);
        due("1 3 4 3", widthsOf(x));
        x.setGrowth(0, 101);
        due("2 4 6 5", widthsOf(x));
        x.setGrowth(0, 120);
        due("2 4 6 5", widthsOf(x));
        x.setGrowth(0, 121);
        due("2 4 6 5", widthsOf(x));
        due(2, x.floats(2, 4));
        failsUnchanged(x, ARGUMENT, () -> x.setGrowth(3, 49));
        due("2 4 6 5", widthsOf(x));
    }

    private static String widthsOf(GutterPages x) {
        return x.floats(0, 3) + " " + x.floats(1, 3) + " " + x.floats(2, 3) + " " + x.floats(3, 3);
    }

    private static void promises13To16() {
        Check.promise(13);
        GutterPages x = withPages(2);
        due(2, x.pages());
        Check.promise(14);
        due(0, x.rows(0));
        x.panel(0, 0, 1, 12, 3);
        due(1, x.rows(0));
        x.panel(0, 0, 1, 12, 3);
        due(1, x.rows(0));
        x.panel(0, 0, 1, 4, 3);
        due(2, x.rows(0));
        due(0, x.rows(1));
        x.cutPanel(0);
        due(1, x.rows(0));
        fails(INDEX, () -> x.rows(-1));
        fails(INDEX, () -> x.rows(2));
        Check.promise(15);
        due(2, x.panels(0));
        due(0, x.panels(1));
        fails(INDEX, () -> x.panels(-1));
        fails(INDEX, () -> x.panels(2));
        Check.promise(16);
        due(2, x.panelAt(0, 0));
        due(1, x.panelAt(0, 1));
        fails(INDEX, () -> x.panelAt(0, 2));
        fails(INDEX, () -> x.panelAt(0, -1));
        fails(INDEX, () -> x.panelAt(1, 0));
        fails(INDEX, () -> x.panelAt(2, 0));
        fails(INDEX, () -> x.panelAt(-1, 0));
        fails(INDEX, () -> x.panelAt(HIGH, LOW));
    }

    private static void promises17To19() {
        Check.promise(17);
        GutterPages x = withPages(1);
        x.panel(0, 0, 1, 24, 7);
        x.panel(0, 1, 1, 10, 3);
        x.panel(0, 2, 1, 10, 5);
        due("1 12 7 12 5", x.lies(2, 0) + " " + x.lies(2, 1) + " " + x.lies(2, 2) + " " + x.lies(2, 3) + " "
            + x.lies(2, 4));
        fails(ARGUMENT, () -> x.lies(2, -1));
        fails(ARGUMENT, () -> x.lies(2, 5));
        fails(INDEX, () -> x.lies(3, 5));
        fails(INDEX, () -> x.lies(-1, 0));
        Check.promise(18);
        x.balloon(2, 0, 5);
        x.balloon(2, 1, 13);
        due("2 5 0 6 3", x.floats(1, 0) + " " + x.floats(1, 1) + " " + x.floats(1, 2) + " " + x.floats(1, 3) + " "
            + x.floats(1, 4));
        fails(ARGUMENT, () -> x.floats(1, -1));
        fails(ARGUMENT, () -> x.floats(1, 5));
        fails(INDEX, () -> x.floats(2, 5));
        fails(INDEX, () -> x.floats(-1, 0));
        Check.promise(19);
        x.face(2, 10, 9, 2);
        due("0 0 1 1 -1", x.cell(2, 0, 0) + " " + x.cell(2, 4, 0) + " " + x.cell(2, 5, 0) + " " + x.cell(2, 10, 2)
            + " " + x.cell(2, 11, 0));
        due("-1 -1 -2 -2 -1", x.cell(2, 0, 1) + " " + x.cell(2, 5, 3) + " " + x.cell(2, 11, 3) + " "
            + x.cell(2, 10, 4) + " " + x.cell(2, 9, 4));
        due("-1 -1", x.cell(2, 11, 2) + " " + x.cell(0, 23, 6));
        fails(INDEX, () -> x.cell(2, 12, 0));
        fails(INDEX, () -> x.cell(2, -1, 0));
        fails(INDEX, () -> x.cell(2, 0, 5));
        fails(INDEX, () -> x.cell(2, 0, -1));
        fails(INDEX, () -> x.cell(3, 0, 0));
        fails(INDEX, () -> x.cell(-1, 0, 0));
        x.cutPanel(2);
        Check.promise(17);
        fails(INDEX, () -> x.lies(2, 0));
        Check.promise(18);
        fails(INDEX, () -> x.floats(0, 0));
        Check.promise(19);
        fails(INDEX, () -> x.cell(2, 0, 0));
        due("[1 0 7 24 3]", Check.boxOf(x, 1));
    }

    private static void promises20To24() {
        GutterPages x = withPages(3);
        x.panel(2, 0, 1, 24, 3);
        x.panel(0, 0, 1, 12, 3);
        x.panel(0, 1, 1, 12, 3);
        x.panel(0, 2, 1, 24, 3);
        x.balloon(0, 0, 3);
        x.balloon(3, 0, 3);
        x.balloon(2, 0, 60);
        x.balloon(1, 0, 8);
        x.balloon(1, 1, 8);
        x.balloon(1, 2, 8);
        for (int tongue = 0; tongue < 3; tongue++) {
            due(tongue == 0 ? 0 : 2, x.translate(0, tongue));
            readsInOrder(x, 3, 4, 5, 2, 1, 0);
        }
        due("[1 0 0 6 2][1 6 0 6 2][1 0 2 6 2]", spotsOf(x, 3, 4, 5));
        Check.promise(24);
        due(0, x.depth(0));
        x.answer(0, 2);
        x.answer(1, 2);
        x.answer(2, 5);
        x.answer(5, 4);
        due("3 3 2 0 0 1", x.depth(0) + " " + x.depth(1) + " " + x.depth(2) + " " + x.depth(3) + " " + x.depth(4)
            + " " + x.depth(5));
        fails(INDEX, () -> x.depth(-1));
        fails(INDEX, () -> x.depth(6));
        x.cutBalloon(3);
        readsInOrder(x, 4, 5, 2, 1, 0);
        goneFromReading(x, 3);
        x.answer(1, -1);
        x.movePanel(3, 0);
        readsInOrder(x, 1, 4, 5, 2, 0);
        x.answer(0, -1);
        x.moveBalloon(0, 3, 0);
        readsInOrder(x, 0, 1, 4, 5, 2);
    }

    private static void readsInOrder(GutterPages x, int... balloons) {
        Check.promise(20);
        due(balloons.length, x.balloons());
        for (int place = 0; place < balloons.length; place++) {
            Check.promise(21);
            due(balloons[place], x.read(place));
            Check.promise(22);
            due(place, x.placeOf(balloons[place]));
            Check.promise(23);
            due(place, x.placeByPairs(balloons[place]));
        }
        Check.promise(21);
        fails(INDEX, () -> x.read(balloons.length));
        fails(INDEX, () -> x.read(-1));
        fails(INDEX, () -> x.read(LOW));
        fails(INDEX, () -> x.read(HIGH));
    }

    private static void goneFromReading(GutterPages x, int balloon) {
        for (int number : new int[] {balloon, -1, 80, LOW, HIGH}) {
            Check.promise(22);
            fails(INDEX, () -> x.placeOf(number));
            Check.promise(23);
            fails(INDEX, () -> x.placeByPairs(number));
            Check.promise(24);
            fails(INDEX, () -> x.depth(number));
        }
    }

    private static void promise24Long() {
        GutterPages x = withPages(3);
        for (int i = 0; i < 20; i++) {
            x.panel(i / 8, i % 8, 1, 4, 3);
        }
        for (int i = 0; i < 80; i++) {
            x.balloon(i / 4, i % 4, 1);
        }
        for (int i = 1; i < 80; i++) {
            x.answer(i, i - 1);
        }
        due(79, x.depth(79));
        due(40, x.depth(40));
        due(0, x.depth(0));
        fails(STATE, () -> x.answer(0, 79));
        due(79, x.placeByPairs(79));
    }

    private static void promise25() {
        GutterPages x = withPages(5);
        due(true, x.spread(1));
        due(5, x.leaf(1, 12));
        failsUnchanged(x, STATE, () -> x.spread(0), () -> x.spread(2));
        due(true, x.spread(3));
        failsUnchanged(x, INDEX, () -> x.spread(4), () -> x.spread(-1), () -> x.spread(5), () -> x.spread(HIGH));
        due(false, x.spread(1));
        due(true, x.spread(0));
        due(1, x.leaf(0, 4));
        failsUnchanged(x, STATE, () -> x.spread(1), () -> x.spread(2));
        due(false, x.spread(0));
        due(false, x.spread(3));
        due(true, x.spread(2));
        due(false, x.spread(2));
        due("0 1 2 3 4", leavesOf(x, 4));
        x.page();
        due(true, x.spread(4));
        fails(INDEX, () -> withPages(1).spread(0));
        fails(INDEX, () -> new GutterPages().spread(0));
    }

    private static void promise26() {
        due("0 0 0 0", sizesOf(new GutterPages()));
        due("4 8 12 16", sizesOf(withPages(1)));
        due("4 8 12 16", sizesOf(withPages(4)));
        due("8 8 12 16", sizesOf(withPages(5)));
        due("8 8 12 16", sizesOf(withPages(8)));
        due("12 16 12 16", sizesOf(withPages(9)));
        GutterPages x = withPages(10);
        for (int i = 0; i < 10; i += 2) {
            x.spread(i);
        }
        due("20 40 60 80", sizesOf(x));
        for (int i = 0; i < 8; i += 2) {
            x.spread(i);
        }
        due("12 16 24 32", sizesOf(x));
        for (int wrong : new int[] {0, 1, 2, 3, 5, 6, 7, 9, 10, 14, 15, 17, 20, -4, -8, LOW, HIGH}) {
            fails(ARGUMENT, () -> x.leaves(wrong));
        }
    }

    private static void promise27() {
        GutterPages x = withPages(6);
        due("0 1 2 3 4 5", leavesOf(x, 4));
        x.spread(1);
        due("0 1 2 3 4 5", leavesOf(x, 4));
        due("0 3 4 5 6 7", leavesOf(x, 8));
        x.spread(1);
        x.spread(2);
        due("0 1 5 6 7 8", leavesOf(x, 4));
        due("0 1 3 4 5 6", leavesOf(x, 8));
        due("0 1 5 6 7 8", leavesOf(x, 12));
        due("0 1 7 8 9 10", leavesOf(x, 16));
        x.spread(4);
        due("0 1 5 6 9 10", leavesOf(x, 4));
        due("0 1 3 4 11 12", leavesOf(x, 8));
        due("0 1 5 6 17 18", leavesOf(x, 12));
        due("0 1 7 8 23 24", leavesOf(x, 16));
        x.spread(0);
        due("1 2 5 6 9 10", leavesOf(x, 4));
        fails(INDEX, () -> x.leaf(6, 4));
        fails(INDEX, () -> x.leaf(-1, 5));
        fails(ARGUMENT, () -> x.leaf(0, 5));
        fails(ARGUMENT, () -> x.leaf(0, 0));
        fails(ARGUMENT, () -> x.leaf(5, -4));
    }

    private static void promise28And29() {
        Check.promise(28);
        GutterPages x = withPages(6);
        due("3/0 2/1 1/1 0/0 -1/0 -1/1", sidesOf(x, 4));
        due("-1/0 -1/1 5/2 4/3 3/3 2/2", sidesOf(x, 8));
        due("-1/0 -1/1 -1/2 -1/3 -1/4 -1/5", sidesOf(x, 16));
        x.spread(2);
        due("-1/0 -1/1 3/1 2/1 -1/0 -1/0", sidesOf(x, 4));
        due("-1/0 5/1 3/3 2/3 -1/2 1/1", sidesOf(x, 8));
        due("-1/0 -1/1 3/5 2/5 -1/4 -1/3", sidesOf(x, 12));
        due("-1/0 -1/1 3/7 2/7 -1/6 -1/5", sidesOf(x, 16));
        fails(INDEX, () -> x.beside(6, 4));
        fails(INDEX, () -> x.beside(-1, 5));
        fails(ARGUMENT, () -> x.beside(0, 5));
        fails(ARGUMENT, () -> x.beside(0, 0));
        Check.promise(29);
        fails(INDEX, () -> x.sheet(6, 4));
        fails(INDEX, () -> x.sheet(-1, 5));
        fails(ARGUMENT, () -> x.sheet(0, 5));
        fails(ARGUMENT, () -> x.sheet(0, 0));
    }

    private static void promises30To34() {
        GutterPages x = withPages(4);
        x.panel(3, 0, 1, 24, 3);
        x.panel(1, 0, 1, 12, 3);
        x.panel(1, 0, 1, 12, 3);
        Check.promise(34);
        due(-1, x.here());
        Check.promise(31);
        due(-1, x.forth());
        due(-1, x.here());
        Check.promise(30);
        due(2, x.open());
        due(2, x.here());
        Check.promise(31);
        due(1, x.forth());
        due(0, x.forth());
        due(-1, x.forth());
        due(0, x.here());
        Check.promise(32);
        due(3, x.jump(2));
        due(4, x.jump(2));
        fails(INDEX, () -> x.jump(3));
        fails(INDEX, () -> x.jump(-1));
        due(2, x.here());
        Check.promise(33);
        due(2, x.back());
        due(0, x.back());
        due(0, x.here());
        due(2, x.jump(1) - 1);
        due(0, x.back());
        due(1, x.back());
        due(2, x.back());
        due(-1, x.back());
        due(2, x.here());
        Check.promise(30);
        x.jump(0);
        due(2, x.open());
        due(-1, x.back());
        x.movePanel(1, 0);
        due(1, x.open());
        Check.promise(31);
        due(2, x.forth());
        due(0, x.forth());
    }

    /** What stands under 'The reader' of panels that are cut. */
    private static void promise34Cuts() {
        GutterPages x = withPages(3);
        x.panel(0, 0, 1, 12, 3);
        x.panel(0, 1, 1, 12, 3);
        x.panel(2, 0, 1, 12, 3);
        x.panel(2, 1, 1, 12, 3);
        x.open();
        x.forth();
        x.cutPanel(1);
        due(2, x.here());
        due(2, x.jump(2));
        due(3, x.jump(3));
        x.cutPanel(2);
        due(3, x.here());
        due(2, x.jump(0));
        due(3, x.jump(3));
        x.cutPanel(3);
        due(0, x.here());
        due(0, x.back());
        due(0, x.back());
        due(-1, x.back());
        due(0, x.here());
        x.cutPanel(0);
        due(-1, x.here());
        due(-1, x.back());
        due(-1, x.forth());
        due(-1, x.open());
        due(4, x.panel(0, 0, 1, 4, 3));
        due(-1, x.here());
        due(0, x.jump(4));
        due(1, x.jump(4));
        fails(INDEX, () -> x.jump(0));
    }

    private static void promise34Stays() {
        GutterPages x = withWidths(20, 20, 4);
        for (int i = 0; i < 4; i++) {
            x.balloon(0, i, 60);
        }
        x.jump(0);
        x.jump(1);
        failsUnchanged(x, STATE, () -> x.cutPanel(1));
        due(1, x.here());
        due(2, x.jump(2));
        x.moveBalloon(3, 2, 0);
        x.cutPanel(1);
        due(2, x.here());
        due(0, x.back());
        due(-1, x.back());
    }

    /** A reader that jumps with every call of an object keeps all that it was at. */
    private static void promise32Long() {
        GutterPages x = withWidths(12, 12);
        for (int i = 0; i < 250; i++) {
            due(i, x.jump(i % 2));
        }
        for (int i = 248; i >= 0; i--) {
            due(i % 2, x.back());
        }
        due(-1, x.back());
    }

    private static void panels() {
        Check.promise(1);
        promise1();
        Check.promise(2);
        promise2();
        Check.promise(3);
        promise3();
        promise3Limits();
        promise3Heights();
        promise3Rows();
        Check.promise(4);
        promise4();
        promise4Counts();
        Check.promise(5);
        promise5();
        Check.promise(6);
        promise6();
        promise6Room();
    }

    private static void balloons() {
        Check.promise(7);
        promise7();
        promise7Limits();
        promise7Spots();
        promise7Heights();
        Check.promise(8);
        promise8();
        promise8Limits();
        promise8Pages();
        promise8FirstAnswers();
        Check.promise(9);
        promise9();
        Check.promise(10);
        promise10();
        Check.promise(11);
        promise11();
        Check.promise(12);
        promise12();
        promise12Roundings();
    }

    private static void questions() {
        promises13To16();
        promises17To19();
        promises20To24();
        Check.promise(24);
        promise24Long();
        Check.promise(25);
        promise25();
        Check.promise(26);
        promise26();
        Check.promise(27);
        promise27();
        promise28And29();
        promises30To34();
        Check.promise(34);
        promise34Cuts();
        promise34Stays();
        Check.promise(32);
        promise32Long();
    }

    public static void main(String[] args) {
        panels();
        balloons();
        questions();
        Check.close("PromiseTests");
    }
}
