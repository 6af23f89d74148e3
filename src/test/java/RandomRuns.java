import java.lang.reflect.InvocationTargetException;
import java.lang.reflect.Method;
import java.util.ArrayList;
import java.util.List;

/**
 * Long runs of calls, the same ones in every session, on the program and on PlainBook: each answer and
 * each exception must be the same. No run has more calls than the document promises.
 */
public final class RandomRuns {
    private static final int RUNS = 1500;
    private static final int CALLS = 512;
    private static final int[] SIZES = {4, 8, 12, 16};
    private static final String[] CHANGES = {"page", "panel", "panel", "panel", "panel", "movePanel",
        "movePanel", "cutPanel", "face", "face", "balloon", "balloon", "balloon", "balloon", "balloon",
        "moveBalloon", "moveBalloon", "moveBalloon", "cutBalloon", "answer", "answer", "answer",
        "translate", "translate", "setGrowth", "setGrowth", "spread", "spread", "open", "forth",
        "forth", "forth", "jump", "jump", "back", "back"};
    private static final String[] QUESTIONS = {"pages", "rows", "panels", "panelAt", "lies", "lies", "lies",
        "floats", "floats", "floats", "cell", "cell", "balloons", "read", "placeOf", "placeByPairs",
        "depth", "leaves", "leaf", "beside", "sheet", "here"};

    private final GutterPages house = new GutterPages();
    private final PlainBook plain = new PlainBook();
    private final StringBuilder told = new StringBuilder();
    private final int manner;
    private final boolean large;
    private long seed;

    private RandomRuns(long seed) {
        this.seed = seed * 7919 + 17;
        this.manner = pick(4);
        this.large = pick(2) == 0;
    }

    /** A written-out generator, so that the runs are the same on every machine. */
    private int pick(int bound) {
        seed = seed * 6364136223846793005L + 1442695040888963407L;
        return (int) ((seed >>> 33) % bound);
    }

    /** Mostly within, now and then just outside or far off. */
    private int within(int least, int most) {
        int kind = pick(40);
        if (kind == 0) {
            return least - 1;
        }
        if (kind == 1) {
            return most + 1;
        }
        if (kind == 2 && pick(6) == 0) {
            return pick(2) == 0 ? Integer.MIN_VALUE : Integer.MAX_VALUE;
        }
        return most < least ? least : least + pick(most - least + 1);
    }

    private int aPage() {
        return within(0, plain.pages() - 1);
    }

    private int aPanel() {
        List<Integer> there = new ArrayList<>();
        for (int i = 0; i < plain.pages(); i++) {
            for (int j = 0; j < plain.panels(i); j++) {
                there.add(plain.panelAt(i, j));
            }
        }
        return there.isEmpty() || pick(30) == 0 ? pick(54) - 2 : there.get(pick(there.size()));
    }

    private int aBalloon() {
        int count = plain.balloons();
        return count == 0 || pick(30) == 0 ? pick(84) - 2 : plain.read(pick(count));
    }

    private int balloonsOf(int panel) {
        int count = 0;
        for (int i = 0; i < plain.balloons(); i++) {
            if (plain.floats(plain.read(i), 0) == panel) {
                count++;
            }
        }
        return count;
    }

    private int panelsOf(int page) {
        return page >= 0 && page < plain.pages() ? plain.panels(page) : 0;
    }

    private int pageOf(int panel) {
        for (int i = 0; i < plain.pages(); i++) {
            for (int j = 0; j < plain.panels(i); j++) {
                if (plain.panelAt(i, j) == panel) {
                    return i;
                }
            }
        }
        return -1;
    }

    private int size() {
        return pick(20) == 0 ? within(0, 20) : SIZES[pick(SIZES.length)];
    }

    private int letters() {
        return within(1, manner == 0 ? 60 : manner == 1 ? 30 : 12);
    }

    private int[] argumentsOf(String name) {
        int page = aPage();
        int panel = aPanel();
        switch (name) {
            case "panel":
                return new int[] {page, within(0, panelsOf(page)), within(1, 9), within(4, large ? 24 : 10),
                    within(3, manner == 2 ? 5 : 12)};
            case "movePanel":
                return new int[] {panel, within(0, panelsOf(pageOf(panel)) - 1)};
            case "face":
                return new int[] {panel, within(0, 23), within(1, pick(3) == 0 ? 24 : 6), within(1, 8)};
            case "balloon":
                return new int[] {panel, within(0, balloonsOf(panel)), letters()};
            case "moveBalloon":
                return new int[] {aBalloon(), panel, within(0, balloonsOf(panel))};
            case "answer":
                return new int[] {aBalloon(), pick(8) == 0 ? -1 : aBalloon()};
            case "translate":
                return new int[] {page, within(0, 2)};
            case "setGrowth":
                return new int[] {within(0, 2), within(50, manner == 3 ? 250 : 150)};
            case "panelAt":
                return new int[] {page, within(0, panelsOf(page) - 1)};
            case "lies":
                return new int[] {panel, within(0, 4)};
            case "floats":
                return new int[] {aBalloon(), within(0, 4)};
            case "cell":
                return pageOf(panel) < 0 ? new int[] {panel, pick(24), pick(16)}
                    : new int[] {panel, within(0, plain.lies(panel, 3) - 1), within(0, plain.lies(panel, 4) - 1)};
            case "read":
                return new int[] {within(0, plain.balloons() - 1)};
            case "rows":
            case "panels":
                return new int[] {page};
            case "spread":
                return new int[] {within(0, plain.pages() - 2)};
            case "cutPanel":
            case "jump":
                return new int[] {panel};
            case "cutBalloon":
            case "placeOf":
            case "placeByPairs":
            case "depth":
                return new int[] {aBalloon()};
            case "leaves":
                return new int[] {size()};
            case "leaf":
            case "beside":
            case "sheet":
                return new int[] {page, size()};
            default:
                return new int[0];
        }
    }

    private static String answerOf(Object object, String name, int[] arguments) {
        Class<?>[] types = new Class<?>[arguments.length];
        Object[] boxed = new Object[arguments.length];
        for (int i = 0; i < arguments.length; i++) {
            types[i] = int.class;
            boxed[i] = arguments[i];
        }
        try {
            Method method = object.getClass().getMethod(name, types);
            return String.valueOf(method.invoke(object, boxed));
        } catch (InvocationTargetException e) {
            return "throws." + Check.nameOf(e.getCause());
        } catch (ReflectiveOperationException e) {
            return "no such call: " + e;
        }
    }

    private boolean runsAlike() {
        for (int i = 0; i < CALLS; i++) {
            String[] names = pick(5) < 2 || i < 40 ? CHANGES : QUESTIONS;
            String name = names[pick(names.length)];
            if (name.startsWith("cut") && pick(3) != 0) {
                name = "panel";
            }
            int[] arguments = argumentsOf(name);
            String due = answerOf(plain, name, arguments);
            String got = answerOf(house, name, arguments);
            told.append(name).append(java.util.Arrays.toString(arguments)).append(" -> ").append(got).append('\n');
            if (!got.equals(due)) {
                told.append("due is ").append(due).append('\n');
                return false;
            }
        }
        return true;
    }

    public static void main(String[] args) {
        int passed = 0;
        int failed = 0;
        for (int i = 0; i < RUNS && failed < 3; i++) {
            RandomRuns run = new RandomRuns(i);
            if (run.runsAlike()) {
                passed++;
            } else {
                failed++;
                System.out.println("run " + i + ":\n" + run.told);
            }
        }
        System.out.println("RandomRuns: " + passed + " runs alike, " + failed + " not");
        if (failed > 0) {
            System.exit(1);
        }
    }
}
