import java.util.ArrayList;
import java.util.List;

/**
 * The document said once more, as plainly as can be and with nothing shared with the program: every
 * change is made on a copy of the whole house, which is then laid anew, cell by cell, and looked over.
 */
public final class PlainBook {
    private static final class Sheet {
        int tongue;
        boolean spread;
        int rows;
        List<Frame> frames = new ArrayList<>();
    }

    private static final class Frame {
        int number;
        int weight;
        int leastWidth;
        int leastHeight;
        List<int[]> faces = new ArrayList<>();
        List<Bubble> bubbles = new ArrayList<>();
        int row;
        int left;
        int top;
        int width;
        int height;
        int[][] cells;
    }

    private static final class Bubble {
        int number;
        int letters;
        int answered = -1;
        int left;
        int top;
        int width;
        int height;
    }

    private List<Sheet> sheets = new ArrayList<>();
    private int[] growth = {100, 100, 100};
    private int madeFrames;
    private int madeBubbles;
    private int reader = -1;
    private List<Integer> kept = new ArrayList<>();

    // ---- the copy, the laying, and the looking over

    private PlainBook copy() {
        PlainBook other = new PlainBook();
        for (Sheet sheet : sheets) {
            Sheet s = new Sheet();
            s.tongue = sheet.tongue;
            s.spread = sheet.spread;
            for (Frame frame : sheet.frames) {
                Frame f = new Frame();
                f.number = frame.number;
                f.weight = frame.weight;
                f.leastWidth = frame.leastWidth;
                f.leastHeight = frame.leastHeight;
                f.faces.addAll(frame.faces);
                for (Bubble bubble : frame.bubbles) {
                    Bubble b = new Bubble();
                    b.number = bubble.number;
                    b.letters = bubble.letters;
                    b.answered = bubble.answered;
                    f.bubbles.add(b);
                }
                s.frames.add(f);
            }
            other.sheets.add(s);
        }
        other.growth = growth.clone();
        other.madeFrames = madeFrames;
        other.madeBubbles = madeBubbles;
        other.reader = reader;
        other.kept = new ArrayList<>(kept);
        return other;
    }

    /** Takes over the changed copy if it stands; tells how many of the panels of both lie otherwise. */
    private int become(PlainBook other) {
        for (Sheet sheet : other.sheets) {
            other.lay(sheet);
        }
        List<Bubble> order = other.order();
        List<Integer> seen = new ArrayList<>();
        for (Bubble bubble : order) {
            if (bubble.answered != -1 && !seen.contains(bubble.answered)) {
                throw new IllegalStateException();
            }
            seen.add(bubble.number);
        }
        int changed = 0;
        for (int n = 0; n < madeFrames; n++) {
            Frame a = frame(n);
            Frame b = other.frame(n);
            if (a != null && b != null && (a.left != b.left || a.top != b.top || a.width != b.width
                    || a.height != b.height)) {
                changed++;
            }
        }
        sheets = other.sheets;
        growth = other.growth;
        madeFrames = other.madeFrames;
        madeBubbles = other.madeBubbles;
        reader = other.reader;
        kept = other.kept;
        return changed;
    }

    private void lay(Sheet sheet) {
        List<List<Frame>> rows = new ArrayList<>();
        int used = 99;
        for (Frame frame : sheet.frames) {
            if (used + frame.leastWidth > 24) {
                rows.add(new ArrayList<>());
                used = 0;
            }
            used += frame.leastWidth;
            rows.get(rows.size() - 1).add(frame);
        }
        int top = 0;
        for (int r = 0; r < rows.size(); r++) {
            List<Frame> row = rows.get(r);
            widths(row);
            int height = height(row, sheet);
            int at = 0;
            for (Frame frame : row) {
                frame.row = r;
                frame.top = top;
                frame.left = sheet.tongue == 1 ? 24 - at - frame.width : at;
                at += frame.width;
            }
            top += height;
        }
        if (top > 50) {
            throw new IllegalStateException();
        }
        sheet.rows = rows.size();
    }

    private static void widths(List<Frame> row) {
        int spare = 24;
        int weights = 0;
        for (Frame frame : row) {
            spare -= frame.leastWidth;
            weights += frame.weight;
        }
        int given = 0;
        for (Frame frame : row) {
            frame.width = frame.leastWidth + spare * frame.weight / weights;
            given += spare * frame.weight / weights;
        }
        for (int i = 0; given < spare; i++) {
            row.get(i).width++;
            given++;
        }
    }

    private int height(List<Frame> row, Sheet sheet) {
        int least = 0;
        for (Frame frame : row) {
            least = Math.max(least, frame.leastHeight);
        }
        for (int height = least; height <= 16; height++) {
            boolean all = true;
            for (Frame frame : row) {
                frame.height = height;
                all &= place(frame, sheet.tongue == 1, growth[sheet.tongue]);
            }
            if (all) {
                return height;
            }
        }
        throw new IllegalStateException();
    }

    private static boolean place(Frame frame, boolean fromRight, int growth) {
        frame.cells = new int[frame.height][frame.width];
        for (int line = 0; line < frame.height; line++) {
            for (int column = 0; column < frame.width; column++) {
                frame.cells[line][column] = -1;
                for (int[] face : frame.faces) {
                    if (column >= face[0] && column < face[0] + face[1] && frame.height - line <= face[2]) {
                        frame.cells[line][column] = -2;
                    }
                }
            }
        }
        int spot = 0;
        for (Bubble bubble : frame.bubbles) {
            int letters = bubble.letters * growth / 100 + (bubble.letters * growth % 100 == 0 ? 0 : 1);
            bubble.width = Math.min(Math.min(letters, 6), frame.width);
            bubble.height = letters / bubble.width + (letters % bubble.width == 0 ? 0 : 1);
            while (spot < frame.width * frame.height && !put(frame, bubble, spot, fromRight)) {
                spot++;
            }
            if (spot == frame.width * frame.height) {
                return false;
            }
            spot++;
        }
        return true;
    }

    private static boolean put(Frame frame, Bubble bubble, int spot, boolean fromRight) {
        int line = spot / frame.width;
        int step = spot % frame.width;
        int left = fromRight ? frame.width - 1 - step - (bubble.width - 1) : step;
        for (int l = line; l < line + bubble.height; l++) {
            for (int c = left; c < left + bubble.width; c++) {
                if (l >= frame.height || c < 0 || c >= frame.width || frame.cells[l][c] != -1) {
                    return false;
                }
            }
        }
        for (int l = line; l < line + bubble.height; l++) {
            for (int c = left; c < left + bubble.width; c++) {
                frame.cells[l][c] = bubble.number;
            }
        }
        bubble.left = left;
        bubble.top = line;
        return true;
    }

    // ---- finding

    private List<Frame> frames() {
        List<Frame> all = new ArrayList<>();
        for (Sheet sheet : sheets) {
            all.addAll(sheet.frames);
        }
        return all;
    }

    private List<Bubble> order() {
        List<Bubble> all = new ArrayList<>();
        for (Frame frame : frames()) {
            all.addAll(frame.bubbles);
        }
        return all;
    }

    private Frame frame(int number) {
        for (Frame frame : frames()) {
            if (frame.number == number) {
                return frame;
            }
        }
        return null;
    }

    private Bubble bubble(int number) {
        for (Bubble bubble : order()) {
            if (bubble.number == number) {
                return bubble;
            }
        }
        return null;
    }

    private Sheet sheetOf(int frame) {
        for (Sheet sheet : sheets) {
            for (Frame one : sheet.frames) {
                if (one.number == frame) {
                    return sheet;
                }
            }
        }
        return null;
    }

    private Frame frameOf(int bubble) {
        for (Frame frame : frames()) {
            for (Bubble one : frame.bubbles) {
                if (one.number == bubble) {
                    return frame;
                }
            }
        }
        return null;
    }

    private static void index(boolean there) {
        if (!there) {
            throw new IndexOutOfBoundsException();
        }
    }

    private static void argument(boolean fine) {
        if (!fine) {
            throw new IllegalArgumentException();
        }
    }

    private static void state(boolean fine) {
        if (!fine) {
            throw new IllegalStateException();
        }
    }

    private static boolean in(int value, int least, int most) {
        return value >= least && value <= most;
    }

    // ---- pages and panels

    public int page() {
        state(sheets.size() < 10);
        sheets.add(new Sheet());
        return sheets.size() - 1;
    }

    public int panel(int page, int place, int weight, int width, int height) {
        index(in(page, 0, sheets.size() - 1) && in(place, 0, sheets.get(page).frames.size()));
        argument(in(weight, 1, 9) && in(width, 4, 24) && in(height, 3, 12));
        state(sheets.get(page).frames.size() < 8 && madeFrames < 50);
        PlainBook next = copy();
        Frame made = new Frame();
        made.number = next.madeFrames++;
        made.weight = weight;
        made.leastWidth = width;
        made.leastHeight = height;
        next.sheets.get(page).frames.add(place, made);
        become(next);
        return made.number;
    }

    public int movePanel(int panel, int place) {
        index(frame(panel) != null && in(place, 0, sheetOf(panel).frames.size() - 1));
        PlainBook next = copy();
        List<Frame> frames = next.sheetOf(panel).frames;
        Frame moved = next.frame(panel);
        frames.remove(moved);
        frames.add(place, moved);
        return become(next);
    }

    public int cutPanel(int panel) {
        index(frame(panel) != null);
        Frame cut = frame(panel);
        for (Frame frame : frames()) {
            for (Bubble bubble : frame.bubbles) {
                state(frame == cut || bubble.answered == -1 || frameOf(bubble.answered) != cut);
            }
        }
        List<Frame> all = frames();
        int at = all.indexOf(cut);
        PlainBook next = copy();
        next.sheetOf(panel).frames.remove(next.frame(panel));
        if (reader == panel) {
            int heir = at + 1 < all.size() ? at + 1 : at - 1;
            next.reader = heir < 0 ? -1 : all.get(heir).number;
        }
        next.kept.removeIf(number -> number == panel);
        become(next);
        return cut.bubbles.size();
    }

    public int face(int panel, int column, int width, int height) {
        index(frame(panel) != null);
        argument(in(column, 0, 23) && in(width, 1, 24) && in(height, 1, 8));
        state(frame(panel).faces.size() < 2);
        PlainBook next = copy();
        next.frame(panel).faces.add(new int[] {column, width, height});
        become(next);
        return frame(panel).height;
    }

    // ---- balloons

    public int balloon(int panel, int place, int letters) {
        index(frame(panel) != null && in(place, 0, frame(panel).bubbles.size()));
        argument(in(letters, 1, 60));
        state(frame(panel).bubbles.size() < 4 && madeBubbles < 80);
        PlainBook next = copy();
        Bubble made = new Bubble();
        made.number = next.madeBubbles++;
        made.letters = letters;
        next.frame(panel).bubbles.add(place, made);
        become(next);
        return made.number;
    }

    public void moveBalloon(int balloon, int panel, int place) {
        index(bubble(balloon) != null && frame(panel) != null);
        boolean own = frameOf(balloon) == frame(panel);
        int size = frame(panel).bubbles.size();
        index(in(place, 0, own ? size - 1 : size));
        state(own || size < 4);
        PlainBook next = copy();
        Bubble moved = next.bubble(balloon);
        next.frameOf(balloon).bubbles.remove(moved);
        next.frame(panel).bubbles.add(place, moved);
        become(next);
    }

    public int cutBalloon(int balloon) {
        index(bubble(balloon) != null);
        for (Bubble bubble : order()) {
            state(bubble.answered != balloon);
        }
        int panel = frameOf(balloon).number;
        PlainBook next = copy();
        next.frameOf(balloon).bubbles.remove(next.bubble(balloon));
        become(next);
        return panel;
    }

    public int answer(int balloon, int other) {
        index(bubble(balloon) != null && (other == -1 || bubble(other) != null));
        List<Bubble> order = order();
        state(other == -1 || order.indexOf(bubble(other)) < order.indexOf(bubble(balloon)));
        int before = bubble(balloon).answered;
        bubble(balloon).answered = other;
        return before;
    }

    // ---- tongues

    public int translate(int page, int tongue) {
        index(in(page, 0, sheets.size() - 1));
        argument(in(tongue, 0, 2));
        PlainBook next = copy();
        next.sheets.get(page).tongue = tongue;
        return become(next);
    }

    public int setGrowth(int tongue, int growth) {
        argument(in(tongue, 0, 2) && in(growth, 50, 250));
        PlainBook next = copy();
        next.growth[tongue] = growth;
        return become(next);
    }

    // ---- where things lie

    public int pages() {
        return sheets.size();
    }

    public int rows(int page) {
        index(in(page, 0, sheets.size() - 1));
        return sheets.get(page).rows;
    }

    public int panels(int page) {
        index(in(page, 0, sheets.size() - 1));
        return sheets.get(page).frames.size();
    }

    public int panelAt(int page, int place) {
        index(in(page, 0, sheets.size() - 1) && in(place, 0, sheets.get(page).frames.size() - 1));
        return sheets.get(page).frames.get(place).number;
    }

    public int lies(int panel, int what) {
        index(frame(panel) != null);
        argument(in(what, 0, 4));
        Frame f = frame(panel);
        return new int[] {f.row, f.left, f.top, f.width, f.height}[what];
    }

    public int floats(int balloon, int what) {
        index(bubble(balloon) != null);
        argument(in(what, 0, 4));
        Bubble b = bubble(balloon);
        return new int[] {frameOf(balloon).number, b.left, b.top, b.width, b.height}[what];
    }

    public int cell(int panel, int column, int line) {
        index(frame(panel) != null && in(column, 0, frame(panel).width - 1)
                && in(line, 0, frame(panel).height - 1));
        return frame(panel).cells[line][column];
    }

    // ---- the order of reading

    public int balloons() {
        return order().size();
    }

    public int read(int place) {
        index(in(place, 0, order().size() - 1));
        return order().get(place).number;
    }

    public int placeOf(int balloon) {
        index(bubble(balloon) != null);
        return order().indexOf(bubble(balloon));
    }

    /** Each balloon gets a text that sorts as it is read by where it lies. */
    public int placeByPairs(int balloon) {
        index(bubble(balloon) != null);
        int count = 0;
        for (Bubble other : order()) {
            if (rank(other.number).compareTo(rank(balloon)) < 0) {
                count++;
            }
        }
        return count;
    }

    private String rank(int balloon) {
        Bubble b = bubble(balloon);
        Frame f = frameOf(balloon);
        Sheet s = sheetOf(f.number);
        boolean fromRight = s.tongue == 1;
        int panelCorner = fromRight ? 24 - (f.left + f.width) : f.left;
        int spotCorner = fromRight ? f.width - (b.left + b.width) : b.left;
        return String.format("%02d %02d %02d %02d %02d", sheets.indexOf(s), f.top, panelCorner, b.top,
                spotCorner);
    }

    public int depth(int balloon) {
        index(bubble(balloon) != null);
        int other = bubble(balloon).answered;
        return other == -1 ? 0 : 1 + depth(other);
    }

    // ---- spreads and signatures

    public boolean spread(int page) {
        index(in(page, 0, sheets.size() - 2));
        state(page == 0 || !sheets.get(page - 1).spread);
        state(!sheets.get(page + 1).spread);
        sheets.get(page).spread = !sheets.get(page).spread;
        return sheets.get(page).spread;
    }

    /** What lies on each leaf of the whole book, -1 for a blank one. */
    private List<Integer> book(int leaves) {
        List<Integer> book = new ArrayList<>();
        for (int page = 0; page < sheets.size(); page++) {
            while (sheets.get(page).spread && book.size() % leaves != leaves / 2 - 1) {
                book.add(-1);
            }
            book.add(page);
        }
        while (book.size() % leaves != 0) {
            book.add(-1);
        }
        return book;
    }

    private static void signature(int leaves) {
        argument(leaves == 4 || leaves == 8 || leaves == 12 || leaves == 16);
    }

    public int leaves(int leaves) {
        signature(leaves);
        return book(leaves).size();
    }

    public int leaf(int page, int leaves) {
        index(in(page, 0, sheets.size() - 1));
        signature(leaves);
        return book(leaves).indexOf(page);
    }

    public int beside(int page, int leaves) {
        int at = leaf(page, leaves);
        return book(leaves).get(at / leaves * leaves + (leaves - 1 - at % leaves));
    }

    public int sheet(int page, int leaves) {
        int at = leaf(page, leaves) % leaves;
        int lesser = Math.min(at, leaves - 1 - at);
        return lesser / 2 * 2 + lesser % 2;
    }

    // ---- the reader

    public int open() {
        kept.clear();
        reader = frames().isEmpty() ? -1 : frames().get(0).number;
        return reader;
    }

    public int forth() {
        if (reader == -1) {
            return -1;
        }
        List<Frame> all = frames();
        int at = all.indexOf(frame(reader));
        if (at + 1 == all.size()) {
            return -1;
        }
        kept.add(reader);
        reader = all.get(at + 1).number;
        return reader;
    }

    public int jump(int panel) {
        index(frame(panel) != null);
        if (reader != -1) {
            kept.add(reader);
        }
        reader = panel;
        return kept.size();
    }

    public int back() {
        if (kept.isEmpty()) {
            return -1;
        }
        reader = kept.remove(kept.size() - 1);
        return reader;
    }

    public int here() {
        return reader;
    }
}
