/** Houses that tests begin with, and short ways to tell what is in one. */
abstract class Houses {
    static final String INDEX = Check.INDEX;
    static final String ARGUMENT = Check.ARGUMENT;
    static final String STATE = Check.STATE;
    static final int LOW = Integer.MIN_VALUE;
    static final int HIGH = Integer.MAX_VALUE;

    static void due(Object want, Object got) {
        Check.due(want, got);
    }

    static void fails(String exception, Check.Call call) {
        Check.fails(exception, call);
    }

    static Object moveBalloon(GutterPages x, int balloon, int panel, int place) {
        x.moveBalloon(balloon, panel, place);
        return "moved";
    }

    static GutterPages withPages(int count) {
        GutterPages x = new GutterPages();
        for (int i = 0; i < count; i++) {
            x.page();
        }
        return x;
    }

    /** One page with panels of weight 1 and height 3, of these least widths, behind one another. */
    static GutterPages withWidths(int... widths) {
        GutterPages x = withPages(1);
        for (int i = 0; i < widths.length; i++) {
            x.panel(0, i, 1, widths[i], 3);
        }
        return x;
    }

    /** One page with whole rows of these heights. */
    static GutterPages withRows(int... heights) {
        GutterPages x = withPages(1);
        for (int i = 0; i < heights.length; i++) {
            x.panel(0, i, 1, 24, heights[i]);
        }
        return x;
    }

    /** One page with one panel of the whole width, 3 high, with balloons of these letters. */
    static GutterPages withLetters(int... letters) {
        GutterPages x = withWidths(24);
        for (int i = 0; i < letters.length; i++) {
            x.balloon(0, i, letters[i]);
        }
        return x;
    }

    /** Panels of 20, 20 and 4 in two rows; the balloons of the first one need all 24 columns. */
    static GutterPages withWideBalloons() {
        GutterPages x = withWidths(20, 20, 4);
        for (int i = 0; i < 4; i++) {
            x.balloon(0, i, 60);
        }
        return x;
    }

    /** A panel 8 wide whose balloons need a line more without the first one, on a page 50 high. */
    static GutterPages withTightBalloons() {
        GutterPages x = withRows(12, 12, 12, 11);
        x.panel(0, 4, 1, 8, 3);
        x.panel(0, 5, 1, 16, 3);
        x.balloon(4, 0, 1);
        x.balloon(4, 1, 1);
        x.balloon(4, 2, 13);
        x.balloon(4, 3, 2);
        return x;
    }

    /** Panels 4 wide, 8 of a page, behind one another. */
    static GutterPages withPanels(int count) {
        GutterPages x = withPages((count + 7) / 8);
        for (int i = 0; i < count; i++) {
            x.panel(i / 8, i % 8, 1, 4, 3);
        }
        return x;
    }

    /** Balloons of one letter, 4 of a panel, behind one another. */
    static GutterPages withBalloons(int count) {
        GutterPages x = withPanels((count + 3) / 4 + 1);
        for (int i = 0; i < count; i++) {
            x.balloon(i / 4, i % 4, 1);
        }
        return x;
    }

    static String panelsOf(GutterPages x, int page) {
        StringBuilder all = new StringBuilder();
        for (int place = 0; place < x.panels(page); place++) {
            all.append(place == 0 ? "" : " ").append(x.panelAt(page, place));
        }
        return all.toString();
    }

    static String readingOf(GutterPages x) {
        StringBuilder all = new StringBuilder();
        for (int place = 0; place < x.balloons(); place++) {
            all.append(place == 0 ? "" : " ").append(x.read(place));
        }
        return all.toString();
    }

    static String boxesOf(GutterPages x, int... panels) {
        StringBuilder boxes = new StringBuilder();
        for (int panel : panels) {
            boxes.append(Check.boxOf(x, panel));
        }
        return boxes.toString();
    }

    static String spotsOf(GutterPages x, int... balloons) {
        StringBuilder spots = new StringBuilder();
        for (int balloon : balloons) {
            spots.append(Check.spotOf(x, balloon));
        }
        return spots.toString();
    }

    /** The lines of a panel from the top: a dot for nothing, a # for a face, a balloon's last digit for it. */
    static String cellsOf(GutterPages x, int panel) {
        StringBuilder cells = new StringBuilder();
        for (int line = 0; line < x.lies(panel, 4); line++) {
            cells.append(line == 0 ? "" : "/");
            for (int column = 0; column < x.lies(panel, 3); column++) {
                int cell = x.cell(panel, column, line);
                cells.append(cell == -1 ? "." : cell == -2 ? "#" : String.valueOf(cell % 10));
            }
        }
        return cells.toString();
    }

    static String leavesOf(GutterPages x, int size) {
        StringBuilder all = new StringBuilder();
        for (int page = 0; page < x.pages(); page++) {
            all.append(page == 0 ? "" : " ").append(x.leaf(page, size));
        }
        return all.toString();
    }

    static String sidesOf(GutterPages x, int size) {
        StringBuilder all = new StringBuilder();
        for (int page = 0; page < x.pages(); page++) {
            all.append(page == 0 ? "" : " ").append(x.beside(page, size)).append("/").append(x.sheet(page, size));
        }
        return all.toString();
    }

    static String sizesOf(GutterPages x) {
        return x.leaves(4) + " " + x.leaves(8) + " " + x.leaves(12) + " " + x.leaves(16);
    }
}
