/** Promises 30 to 34, and how long an object is used. */
final class EdgesOfReader extends Edges {
    private static final String CUT = "When the panel at which it is is cut, it is at that which is read next, or, if"
        + " there is none, at that which is read just before, or nowhere.";
    private static final String KEEPS = "It keeps from which panels it went forth or jumped; panels that are cut are"
        + " not kept.";
    private static final String LONG = "An object is used for at most 512 calls after it has been made";

    private EdgesOfReader() {
    }

    /** Pages 0, 2 and 3 with the panels 0 and 1, 2, and 3; the page 1 is empty. */
    private static GutterPages withGaps() {
        GutterPages x = withPages(4);
        x.panel(0, 0, 1, 12, 3);
        x.panel(0, 1, 1, 12, 3);
        x.panel(2, 0, 1, 24, 3);
        x.panel(3, 0, 1, 24, 3);
        return x;
    }

    @Says(at = "The reader", value = "The reader is at a panel, or nowhere, as at first.")
    static void nowhereAtFirst() {
        GutterPages x = new GutterPages();
        due(-1, x.here());
        x.page();
        x.panel(0, 0, 1, 24, 3);
        due(-1, x.here());
        due(-1, x.forth());
        due(-1, x.back());
        due(-1, x.here());
        due(0, x.jump(0));
        due(0, x.here());
    }

    @Says(at = "Promise 30", value = "Lets the reader begin anew: at the panel that is read first, or nowhere if there"
        + " is none; it keeps no panels.")
    static void beginsAnew() {
        GutterPages x = withGaps();
        due(0, x.open());
        due(1, x.forth());
        due(2, x.jump(3));
        due(0, x.open());
        due(0, x.here());
        due(-1, x.back());
        due(1, x.jump(0));
        due(0, x.open());
        due(1, x.jump(3));
    }

    @Says(at = "Promise 30", value = "Lets the reader begin anew: at the panel that is read first, or nowhere if there"
        + " is none; it keeps no panels.")
    static void beginsWhereThereIsAPanel() {
        taken(0, () -> {
            GutterPages x = withPages(10);
            x.panel(9, 0, 1, 24, 3);
            return x;
        }, x -> x.open(), x -> last(x.open(), x.here()));
        GutterPages x = withGaps();
        x.movePanel(1, 0);
        due(1, x.open());
        x.cutPanel(0);
        x.cutPanel(1);
        due(2, x.open());
    }

    @Says(at = "Promise 30", value = "Returns the panel, -1 if nowhere.")
    static void beginsNowhere() {
        due(-1, new GutterPages().open());
        due(-1, withPages(10).open());
        GutterPages x = withWidths(24);
        due(0, x.open());
        x.cutPanel(0);
        due(-1, x.open());
        due(-1, x.here());
        due(1, x.panel(0, 0, 1, 24, 3));
        due(-1, x.here());
        due(0, x.jump(1));
    }

    @Says(at = "Promise 31", value = "Lets the reader go forth to the panel that is read next.")
    static void goesForthOverEmptyPages() {
        GutterPages x = withGaps();
        x.open();
        due(1, x.forth());
        due(2, x.forth());
        due(2, x.here());
        due(3, x.forth());
        due(3, x.here());
    }

    @Says(at = "Promise 31", value = "Returns it; -1 if there is none, or the reader is nowhere, and then it stays.")
    static void staysAtTheLastPanel() {
        GutterPages x = withGaps();
        x.jump(3);
        due(-1, x.forth());
        due(3, x.here());
        due(-1, x.forth());
        due(1, x.jump(2));
        due(3, x.forth());
        due(-1, x.forth());
        due(2, x.back());
    }

    @Says(at = "Promise 31", value = "Returns it; -1 if there is none, or the reader is nowhere, and then it stays.")
    static void staysNowhere() {
        GutterPages x = withGaps();
        due(-1, x.forth());
        due(-1, x.here());
        due(0, x.jump(1));
        due(-1, x.back());
        due(1, x.here());
    }

    @Says(at = "Promise 32", value = "Returns how many panels it keeps then.")
    static void countsTheKept() {
        GutterPages x = withGaps();
        due(0, x.jump(2));
        due(1, x.jump(2));
        due(2, x.jump(0));
        x.forth();
        due(4, x.jump(0));
        x.back();
        x.back();
        due(3, x.jump(3));
    }

    @Says(at = "Promise 32", value = "Throws `IndexOutOfBoundsException` if there is no such panel there")
    static void noSuchPanelToJumpTo() {
        refused(INDEX, EdgesOfReader::onTheWay, x -> x.jump(-1), x -> x.jump(4), x -> x.jump(LOW), x -> x.jump(HIGH));
        refused(INDEX, () -> {
            GutterPages x = onTheWay();
            x.cutPanel(1);
            return x;
        }, x -> x.jump(1));
        refused(INDEX, () -> withPanels(50), x -> x.jump(50));
        taken(0, () -> withPanels(50), x -> x.jump(49));
    }

    /** At the panel 2; it went from 0, 1 and 3. */
    private static GutterPages onTheWay() {
        GutterPages x = withGaps();
        x.open();
        x.forth();
        x.jump(3);
        x.jump(2);
        return x;
    }

    @Says(at = "Promise 33", value = "Lets the reader go back to the panel that it kept last, which it does not keep"
        + " any more.")
    static void goesBackTheWayItCame() {
        GutterPages x = onTheWay();
        due(3, x.back());
        due(3, x.here());
        due(1, x.back());
        due(2, x.jump(1));
        due(1, x.back());
        due(0, x.back());
        due(0, x.here());
        due(1, x.forth());
        due(0, x.back());
    }

    @Says(at = "Promise 33", value = "Returns it; -1 if it keeps none, and then it stays.")
    static void staysWhenItKeepsNone() {
        GutterPages x = withGaps();
        due(-1, x.back());
        due(-1, x.here());
        x.jump(2);
        due(-1, x.back());
        due(2, x.here());
        x.open();
        x.forth();
        due(0, x.back());
        due(-1, x.back());
        due(0, x.here());
    }

    @Says(at = "Promise 34", value = "Returns the panel at which the reader is, -1 if nowhere.")
    static void tellsWhereItIs() {
        due(-1, new GutterPages().here());
        due(-1, withGaps().here());
        due(2, onTheWay().here());
        GutterPages x = onTheWay();
        x.movePanel(0, 1);
        x.panel(0, 0, 1, 4, 3);
        due(2, x.here());
        fails(INDEX, () -> x.jump(5));
        due(2, x.here());
    }

    // ---- panels that are cut

    @Says(at = "The reader", value = CUT)
    static void goesToTheNextOne() {
        taken(1, () -> at(0), x -> last(x.cutPanel(0), x.here()));
        taken(2, () -> at(1), x -> last(x.cutPanel(1), x.here()));
        taken(3, () -> at(2), x -> last(x.cutPanel(2), x.here()));
        taken(3, () -> at(0), x -> last(x.cutPanel(2), x.cutPanel(1), x.cutPanel(0), x.here()));
    }

    private static GutterPages at(int panel) {
        GutterPages x = withGaps();
        x.jump(panel);
        return x;
    }

    @Says(at = "The reader", value = CUT)
    static void goesToTheOneJustBefore() {
        taken(2, () -> at(3), x -> last(x.cutPanel(3), x.here()));
        taken(1, () -> at(3), x -> last(x.cutPanel(3), x.cutPanel(2), x.here()));
        taken(0, () -> at(3), x -> last(x.cutPanel(1), x.cutPanel(3), x.cutPanel(2), x.here()));
        taken(0, () -> withWidths(12, 12), x -> last(x.jump(1), x.cutPanel(1), x.here()));
    }

    @Says(at = "The reader", value = CUT)
    static void goesNowhere() {
        GutterPages x = at(2);
        x.cutPanel(3);
        x.cutPanel(2);
        x.cutPanel(1);
        due(0, x.here());
        x.cutPanel(0);
        due(-1, x.here());
        due(-1, x.forth());
        due(-1, x.back());
        due(4, x.panel(1, 0, 1, 24, 3));
        due(-1, x.here());
        due(-1, x.forth());
        due(4, x.open());
    }

    @Says(at = "The reader", value = CUT)
    static void staysWhenAnotherOneIsCut() {
        taken(1, () -> at(1), x -> last(x.cutPanel(0), x.here()), x -> last(x.cutPanel(2), x.here()),
            x -> last(x.cutPanel(0), x.cutPanel(3), x.here()));
        taken(-1, EdgesOfReader::withGaps, x -> last(x.cutPanel(0), x.here()));
    }

    @Says(at = "The reader", value = CUT)
    static void staysWhenTheCutIsRefused() {
        refused(STATE, () -> {
            GutterPages x = withWideBalloons();
            x.jump(0);
            x.jump(1);
            return x;
        }, x -> x.cutPanel(1));
        refused(STATE, () -> {
            GutterPages x = withWidths(12, 12);
            x.balloon(0, 0, 1);
            x.balloon(1, 0, 1);
            x.answer(1, 0);
            x.jump(1);
            x.jump(0);
            return x;
        }, x -> x.cutPanel(0));
    }

    @Says(at = "The reader", value = KEEPS)
    static void doesNotKeepWhatIsCut() {
        GutterPages x = onTheWay();
        x.cutPanel(1);
        due(3, x.back());
        due(0, x.back());
        due(-1, x.back());
        GutterPages last = onTheWay();
        last.cutPanel(3);
        due(3, last.jump(0));
        due(2, last.back());
        due(1, last.back());
        GutterPages first = onTheWay();
        first.cutPanel(0);
        due(3, first.jump(3));
        due(2, first.back());
        due(3, first.back());
        due(1, first.back());
        due(-1, first.back());
    }

    @Says(at = "The reader", value = KEEPS)
    static void doesNotKeepAnyOfSeveral() {
        GutterPages x = withGaps();
        for (int i = 0; i < 6; i++) {
            x.jump(i % 2);
            x.jump(1);
        }
        x.cutPanel(1);
        due(2, x.here());
        due(4, x.jump(3));
        due(2, x.back());
        due(0, x.back());
        due(0, x.back());
        due(0, x.back());
        due(-1, x.back());
        due(0, x.here());
    }

    @Says(at = "The reader", value = KEEPS)
    static void doesNotKeepWhereItWasCut() {
        GutterPages x = at(1);
        x.cutPanel(1);
        due(2, x.here());
        due(-1, x.back());
        due(1, x.jump(3));
        due(2, x.back());
    }

    @Says(at = "The reader", value = KEEPS)
    static void keepsOnlyWhereItWentFrom() {
        GutterPages x = withGaps();
        due(0, x.jump(3));
        due(-1, x.forth());
        due(1, x.jump(3));
        due(3, x.back());
        due(-1, x.back());
        due(1, x.jump(0));
        due(3, x.back());
        due(1, x.jump(3));
    }

    // ---- how long an object is used

    @Says(at = "What it is", value = LONG)
    static void theLastOfAllCallsIsAnswered() {
        GutterPages x = withWidths(24);
        for (int call = 3; call <= 511; call++) {
            due(call - 3, x.jump(0));
        }
        due(509, x.jump(0));
    }

    @Says(at = "What it is", value = LONG)
    static void goesBackUntilTheLastOfAllCalls() {
        GutterPages x = withWidths(12, 12);
        for (int i = 0; i < 255; i++) {
            due(i, x.jump(i % 2));
        }
        for (int i = 253; i >= 0; i--) {
            due(i % 2, x.back());
        }
    }

    @Says(at = "What it is", value = LONG)
    static void theLastOfAllCallsMayBeRefusedOrNot() {
        taken("throws." + INDEX, () -> worn(511), x -> x.jump(1));
        taken("throws." + STATE, () -> worn(511), x -> x.balloon(0, 0, 1));
        taken(4, () -> worn(511), x -> x.balloons());
        taken(0, () -> worn(511), x -> x.cutBalloon(0));
    }

    /** Four balloons, and so many calls in all. */
    private static GutterPages worn(int calls) {
        GutterPages x = withLetters(1, 1, 1, 1);
        for (int i = 6; i < calls; i++) {
            x.placeOf(i % 4);
        }
        return x;
    }
}
