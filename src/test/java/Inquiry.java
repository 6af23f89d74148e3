/**
 * Asks everything that can be asked of a house, what it keeps out of sight included. Houses that are
 * made alike stand in for one another, so that none is used for more calls than the document promises.
 */
final class Inquiry {
    /** Calls on one house, beside those of its scene. */
    private static final int CALLS_ON_ONE = 150;
    private static final int[] SIZES = {4, 8, 12, 16};

    /** Makes the same house each time. */
    interface Scene {
        GutterPages build();
    }

    /** A call of the program. */
    interface Call {
        Object on(GutterPages x);
    }

    private final Scene scene;
    private final Call refused;
    private final StringBuilder told = new StringBuilder();
    private GutterPages house;
    private int calls;

    private Inquiry(Scene scene, Call refused) {
        this.scene = scene;
        this.refused = refused;
    }

    /** What a house of this scene answers after a call that throws, or at once if there is no such call. */
    static String allOf(Scene scene, Call refused) {
        Inquiry inquiry = new Inquiry(scene, refused);
        inquiry.askPages();
        inquiry.askBalloons();
        inquiry.askLeaves();
        inquiry.askReader();
        inquiry.tryChanges();
        return inquiry.told.toString();
    }

    static String answerOf(GutterPages x, Call call) {
        try {
            return String.valueOf(call.on(x));
        } catch (RuntimeException e) {
            return "throws." + Check.nameOf(e);
        }
    }

    private void beginAnew() {
        house = scene.build();
        calls = 0;
        if (refused != null) {
            answerOf(house, refused);
        }
    }

    private GutterPages x() {
        if (house == null || calls >= CALLS_ON_ONE) {
            beginAnew();
        }
        calls++;
        return house;
    }

    private void tell(Object answer) {
        told.append(answer).append(' ');
    }

    private void tryOut(Call call) {
        tell(answerOf(x(), call));
    }

    /** A change is tried on a house of its own. */
    private void tryAnew(Call call) {
        beginAnew();
        tell(answerOf(house, call));
    }

    private void askPages() {
        for (int page = 0; page < x().pages(); page++) {
            tell("\npage " + page);
            tell(x().rows(page));
            for (int place = 0; place < x().panels(page); place++) {
                int panel = x().panelAt(page, place);
                tell("panel " + panel);
                for (int what = 0; what < 5; what++) {
                    tell(x().lies(panel, what));
                }
                askCells(panel);
            }
        }
    }

    private void askCells(int panel) {
        int width = x().lies(panel, 3);
        int height = x().lies(panel, 4);
        for (int line = 0; line < height; line++) {
            for (int column = 0; column < width; column++) {
                tell(x().cell(panel, column, line));
            }
        }
    }

    private void askBalloons() {
        for (int place = 0; place < x().balloons(); place++) {
            int balloon = x().read(place);
            tell("\nballoon " + balloon);
            tell(x().placeOf(balloon));
            tell(x().placeByPairs(balloon));
            tell(x().depth(balloon));
            for (int what = 0; what < 5; what++) {
                tell(x().floats(balloon, what));
            }
        }
    }

    private void askLeaves() {
        for (int size : SIZES) {
            tell("\nleaves " + x().leaves(size));
            for (int page = 0; page < x().pages(); page++) {
                tell(x().leaf(page, size));
                tell(x().beside(page, size));
                tell(x().sheet(page, size));
            }
        }
    }

    private void askReader() {
        tell("\nreader");
        tell(x().here());
        beginAnew();
        for (int i = 0; i < CALLS_ON_ONE; i++) {
            tell(house.back());
        }
        beginAnew();
        tell(house.forth());
        tell(house.forth());
    }

    /** Which number the next one gets, whom a balloon answers, how many faces are there: changes tell it. */
    private void tryChanges() {
        tell("\nchanges");
        tryAnew(y -> y.page());
        int pages = x().pages();
        for (int i = 0; i < pages; i++) {
            int page = i;
            tryAnew(y -> y.panel(page, 0, 1, 4, 3));
            tryAnew(y -> y.spread(page));
            for (int tongue = 0; tongue < 3; tongue++) {
                tryTongue(page, tongue);
            }
        }
        for (int i = 0; i < 50; i++) {
            int panel = i;
            if (!answerOf(x(), y -> y.lies(panel, 0)).startsWith("throws")) {
                tryAnew(y -> y.balloon(panel, 0, 1));
                tryAnew(y -> y.face(panel, 0, 1, 1));
                tryAnew(y -> y.jump(panel));
            }
        }
        beginAnew();
        for (int i = 0; i < 80; i++) {
            int balloon = i;
            tryOut(y -> y.answer(balloon, -1));
        }
    }

    private void tryTongue(int page, int tongue) {
        tryAnew(y -> y.translate(page, tongue));
        for (int i = 0; i < house.balloons(); i++) {
            tell(house.floats(house.read(i), 3));
            tell(house.floats(house.read(i), 4));
        }
    }
}
