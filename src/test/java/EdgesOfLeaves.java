/** Promises 25 to 29: spreads and signatures. */
final class EdgesOfLeaves extends Edges {
    private static final int[] SIZES = {4, 8, 12, 16};
    private static final String SIZE = "`leaves`: of a signature: 4, 8, 12 or 16";
    private static final String NO_SIZE = "Throws `IllegalArgumentException` if leaves is none of these";
    private static final String NO_PAGE = "Throws `IndexOutOfBoundsException` if there is no such page";
    private static final String MIDDLE = "two pages that are a spread are put on the two leaves in the middle of a"
        + " signature, and as many leaves as are needed ahead of them are blank;";
    private static final String END = "at last as many leaves are blank as are needed for whole signatures.";
    private static final String BESIDE = "Of a signature of s leaves the leaves i and s - 1 - i are printed beside one"
        + " another.";
    private static final String SHEET = "The sheet of these is the lesser one of both, divided by 2, rounded down, its"
        + " side the remainder.";

    private EdgesOfLeaves() {
    }

    /** So many pages, of which these and the next ones are spreads. */
    private static GutterPages withSpreads(int count, int... firsts) {
        GutterPages x = withPages(count);
        for (int first : firsts) {
            x.spread(first);
        }
        return x;
    }

    // ---- spreads

    @Says(at = "Signatures", value = "A signature has 4, 8, 12 or 16 leaves, one for a page each, from 0 on.")
    static void fourSizesAndNoOther() {
        for (int asked = -17; asked <= 65; asked++) {
            int size = asked;
            boolean known = size == 4 || size == 8 || size == 12 || size == 16;
            String refusal = "throws." + ARGUMENT;
            taken(known ? size : refusal, () -> withPages(3), x -> x.leaves(size));
            taken(known ? 2 : refusal, () -> withPages(3), x -> x.leaf(2, size));
            taken(known ? size == 4 ? 1 : 2 : refusal, () -> withPages(3), x -> x.sheet(2, size));
            taken(known ? size == 4 ? 1 : -1 : refusal, () -> withPages(3), x -> x.beside(2, size));
        }
    }

    @Says(at = "Promise 25", value = "Makes a page and the next one a spread, or no spread, if they are one.")
    static void thePageAndTheNextOneNotTheOneAhead() {
        GutterPages x = withPages(4);
        due(true, x.spread(1));
        due("0 3 4 5", leavesOf(x, 8));
        due(false, x.spread(1));
        due("0 1 2 3", leavesOf(x, 8));
        due(true, x.spread(2));
        due("0 1 3 4", leavesOf(x, 8));
        due(true, x.spread(0));
        due("3 4 11 12", leavesOf(x, 8));
        due(false, x.spread(2));
        due("3 4 5 6", leavesOf(x, 8));
    }

    @Says(at = "Promise 25", value = "Returns whether they are one then.")
    static void aSpreadAndNoneAgain() {
        GutterPages x = withPages(2);
        due("0 1", leavesOf(x, 4));
        due(true, x.spread(0));
        due("1 2", leavesOf(x, 4));
        due(false, x.spread(0));
        due("0 1", leavesOf(x, 4));
        due(true, x.spread(0));
        due("1 2", leavesOf(x, 4));
    }

    @Says(at = "Promise 25", value = "Throws `IndexOutOfBoundsException` if there is no such page, or no next one")
    static void noNextPage() {
        taken(true, () -> withPages(2), x -> x.spread(0));
        taken(true, () -> withPages(10), x -> x.spread(8));
        refused(INDEX, () -> withPages(1), x -> x.spread(0));
        refused(INDEX, () -> withPages(2), x -> x.spread(1));
        refused(INDEX, () -> withPages(10), x -> x.spread(9));
        refused(INDEX, () -> withSpreads(2, 0), x -> x.spread(1));
    }

    @Says(at = "Promise 25", value = "Throws `IndexOutOfBoundsException` if there is no such page, or no next one")
    static void noSuchPageForASpread() {
        refused(INDEX, () -> withPages(3), x -> x.spread(-1), x -> x.spread(3), x -> x.spread(LOW),
            x -> x.spread(HIGH));
        refused(INDEX, GutterPages::new, x -> x.spread(0), x -> x.spread(-1));
    }

    @Says(at = "Promise 25", value = "Throws `IllegalStateException` if one of them is of a spread with another page")
    static void noPageOfTwoSpreads() {
        refused(STATE, () -> withSpreads(5, 1), x -> x.spread(0), x -> x.spread(2));
        taken(true, () -> withSpreads(5, 1), x -> x.spread(3));
        taken(false, () -> withSpreads(5, 1), x -> x.spread(1));
        taken(false, () -> withSpreads(6, 0, 2, 4), x -> x.spread(2));
        refused(STATE, () -> withSpreads(6, 0, 2, 4), x -> x.spread(1), x -> x.spread(3));
        refused(STATE, () -> withSpreads(4, 0, 2), x -> x.spread(1));
        taken(true, () -> withSpreads(5, 1), x -> last(x.spread(1), x.spread(0)), x -> last(x.spread(1), x.spread(2)));
    }

    // ---- leaves

    @Says(at = "Promise 26", value = "Returns how many leaves the book has, blank ones included.")
    static void leavesOfABookOfNoneOrOnePage() {
        due("0 0 0 0", sizesOf(new GutterPages()));
        due("4 8 12 16", sizesOf(withPages(1)));
    }

    @Says(at = "Promise 26", value = SIZE)
    static void theLeastAndTheGreatestSignature() {
        taken(4, () -> withPages(1), x -> x.leaves(4));
        taken(16, () -> withPages(1), x -> x.leaves(16));
        refused(ARGUMENT, () -> withPages(1), x -> x.leaves(3), x -> x.leaves(17));
    }

    @Says(at = "Promise 27", value = SIZE)
    static void theLeastAndTheGreatestSignatureOfALeaf() {
        taken(1, () -> withSpreads(2, 0), x -> x.leaf(0, 4));
        taken(7, () -> withSpreads(2, 0), x -> x.leaf(0, 16));
        refused(ARGUMENT, () -> withSpreads(2, 0), x -> x.leaf(0, 3), x -> x.leaf(0, 17));
    }

    @Says(at = "Promise 28", value = SIZE)
    static void theLeastAndTheGreatestSignatureBeside() {
        taken(0, () -> withPages(4), x -> x.beside(3, 4));
        taken(-1, () -> withPages(4), x -> x.beside(3, 16));
        refused(ARGUMENT, () -> withPages(4), x -> x.beside(3, 3), x -> x.beside(3, 17));
    }

    @Says(at = "Promise 29", value = SIZE)
    static void theLeastAndTheGreatestSignatureOfASheet() {
        taken(0, () -> withPages(4), x -> x.sheet(3, 4));
        taken(3, () -> withPages(4), x -> x.sheet(3, 16));
        refused(ARGUMENT, () -> withPages(4), x -> x.sheet(3, 3), x -> x.sheet(3, 17));
    }

    @Says(at = "Promise 26", value = NO_SIZE)
    static void noSuchSignature() {
        for (int size = -20; size <= 40; size++) {
            int asked = size;
            if (asked != 4 && asked != 8 && asked != 12 && asked != 16) {
                fails(ARGUMENT, () -> withPages(3).leaves(asked));
                fails(ARGUMENT, () -> new GutterPages().leaves(asked));
            }
        }
        refused(ARGUMENT, () -> withSpreads(3, 0), x -> x.leaves(0), x -> x.leaves(3), x -> x.leaves(5),
            x -> x.leaves(20), x -> x.leaves(-4), x -> x.leaves(LOW), x -> x.leaves(HIGH));
    }

    @Says(at = "Signatures", value = END)
    static void wholeSignatures() {
        due("4 8 12 16", sizesOf(withPages(4)));
        due("8 8 12 16", sizesOf(withPages(5)));
        due("8 8 12 16", sizesOf(withPages(8)));
        due("12 16 12 16", sizesOf(withPages(9)));
        due("12 16 12 16", sizesOf(withPages(10)));
        due("4 8 12 16", sizesOf(withSpreads(2, 0)));
        due("4 8 12 16", sizesOf(withSpreads(3, 0)));
        due("8 8 12 16", sizesOf(withSpreads(4, 0)));
        due("8 16 12 16", sizesOf(withSpreads(7, 0)));
    }

    @Says(at = "Signatures", value = END)
    static void asManySignaturesAsSpreads() {
        due("20 40 60 80", sizesOf(withSpreads(10, 0, 2, 4, 6, 8)));
        due("12 16 24 32", sizesOf(withSpreads(10, 8)));
    }

    @Says(at = "Signatures", value = "The pages are put on leaves in their order, behind one another;")
    static void pagesBehindOneAnother() {
        for (int size : SIZES) {
            due("0 1 2 3 4 5 6 7 8 9", leavesOf(withPages(10), size));
        }
    }

    @Says(at = "Signatures", value = MIDDLE)
    static void aSpreadAtTheBeginning() {
        due("1 2 3", leavesOf(withSpreads(3, 0), 4));
        due("3 4 5", leavesOf(withSpreads(3, 0), 8));
        due("5 6 7", leavesOf(withSpreads(3, 0), 12));
        due("7 8 9", leavesOf(withSpreads(3, 0), 16));
    }

    @Says(at = "Signatures", value = MIDDLE)
    static void aSpreadThatIsInTheMiddleAnyway() {
        due("0 1 2 3", leavesOf(withSpreads(4, 1), 4));
        due("0 1 2 3 4 5 6 7", leavesOf(withSpreads(8, 3), 8));
        due("0 1 2 3 4 5 6 7", leavesOf(withSpreads(8, 5), 12));
        due("0 1 2 3 4 5 6 7 8 9", leavesOf(withSpreads(10, 7), 16));
        due("0 1 2 3 4 5 6 7", leavesOf(withSpreads(8, 1, 5), 4));
    }

    @Says(at = "Signatures", value = MIDDLE)
    static void aSpreadJustBehindTheMiddle() {
        due("0 1 5 6", leavesOf(withSpreads(4, 2), 4));
        due("0 1 2 3 11 12", leavesOf(withSpreads(6, 4), 8));
        due("0 1 2 3 4 5 17 18", leavesOf(withSpreads(8, 6), 12));
        due("0 1 2 3 4 5 6 7 23 24", leavesOf(withSpreads(10, 8), 16));
    }

    @Says(at = "Signatures", value = MIDDLE)
    static void aSpreadJustAheadOfTheMiddle() {
        due("0 1 3 4", leavesOf(withSpreads(4, 2), 8));
        due("0 1 2 3 5 6", leavesOf(withSpreads(6, 4), 12));
        due("0 1 2 3 4 5 7 8", leavesOf(withSpreads(8, 6), 16));
        due("0 1 2 5 6", leavesOf(withSpreads(5, 3), 4));
        due("0 1 2 3 5 6", leavesOf(withSpreads(6, 4), 4));
    }

    @Says(at = "Signatures", value = MIDDLE)
    static void spreadsBehindOneAnother() {
        due("1 2 5 6 9 10 13 14 17 18", leavesOf(withSpreads(10, 0, 2, 4, 6, 8), 4));
        due("3 4 11 12 19 20 27 28 35 36", leavesOf(withSpreads(10, 0, 2, 4, 6, 8), 8));
        due("5 6 17 18 29 30 41 42 53 54", leavesOf(withSpreads(10, 0, 2, 4, 6, 8), 12));
        due("7 8 23 24 39 40 55 56 71 72", leavesOf(withSpreads(10, 0, 2, 4, 6, 8), 16));
    }

    @Says(at = "Promise 27", value = "Returns the leaf of a page, from 0, of the whole book.")
    static void leavesGoOnBehindASpread() {
        due("0 3 4 5 6 7 8 9 10 11", leavesOf(withSpreads(10, 1), 8));
        due("0 1 5 6 7 8 9 10 13 14", leavesOf(withSpreads(10, 2, 8), 4));
    }

    @Says(at = "Promise 27", value = NO_PAGE)
    static void noSuchPageOnALeaf() {
        refused(INDEX, () -> withPages(2), x -> x.leaf(-1, 4), x -> x.leaf(2, 4), x -> x.leaf(LOW, 4),
            x -> x.leaf(HIGH, 4), x -> x.leaf(2, 5), x -> x.leaf(-1, 0));
        refused(INDEX, () -> withPages(10), x -> x.leaf(10, 16));
        due(9, withPages(10).leaf(9, 16));
    }

    @Says(at = "Promise 27", value = NO_SIZE)
    static void noSuchSignatureForALeaf() {
        refused(ARGUMENT, () -> withPages(2), x -> x.leaf(1, 0), x -> x.leaf(1, 3), x -> x.leaf(1, 5),
            x -> x.leaf(1, 20), x -> x.leaf(1, -4), x -> x.leaf(1, 6), x -> x.leaf(1, 10), x -> x.leaf(1, 14),
            x -> x.leaf(1, LOW), x -> x.leaf(1, HIGH));
    }

    // ---- what is printed beside what

    private static String besideOf(GutterPages x, int size) {
        StringBuilder all = new StringBuilder();
        for (int page = 0; page < x.pages(); page++) {
            all.append(page == 0 ? "" : " ").append(x.beside(page, size));
        }
        return all.toString();
    }

    @Says(at = "Signatures", value = BESIDE)
    static void theFirstLeafIsBesideTheLast() {
        due("3 2 1 0 7 6 5 4 -1 -1", besideOf(withPages(10), 4));
        due("7 6 5 4 3 2 1 0 -1 -1", besideOf(withPages(10), 8));
        due("-1 -1 9 8 7 6 5 4 3 2", besideOf(withPages(10), 12));
        due("-1 -1 -1 -1 -1 -1 9 8 7 6", besideOf(withPages(10), 16));
    }

    @Says(at = "Promise 28", value = "Returns the page that is printed beside a page, -1 if a blank leaf is.")
    static void blankLeavesAreBesideSome() {
        due("-1", besideOf(withPages(1), 4));
        due("-1 -1", besideOf(withPages(2), 4));
        due("-1 2 1", besideOf(withPages(3), 4));
        due("3 2 1 0", besideOf(withPages(4), 4));
        // The leaves 0, 3 and 4 are blank.
        due("1 0 3 2 -1", besideOf(withSpreads(5, 0, 2), 4));
        due("1 0 -1", besideOf(withSpreads(3, 0), 4));
    }

    @Says(at = "Signatures", value = BESIDE)
    static void bothOfASpreadAreBesideOneAnother() {
        for (int size : SIZES) {
            GutterPages x = withSpreads(10, 0, 2, 4, 6, 8);
            due("1 0 3 2 5 4 7 6 9 8", besideOf(x, size));
        }
    }

    @Says(at = "Promise 28", value = NO_PAGE)
    static void noSuchPageBesideOne() {
        refused(INDEX, () -> withPages(2), x -> x.beside(-1, 4), x -> x.beside(2, 4), x -> x.beside(LOW, 4),
            x -> x.beside(HIGH, 4), x -> x.beside(2, 5), x -> x.beside(-1, 0));
        refused(INDEX, () -> withPages(10), x -> x.beside(10, 16));
    }

    @Says(at = "Promise 28", value = NO_SIZE)
    static void noSuchSignatureBeside() {
        refused(ARGUMENT, () -> withPages(2), x -> x.beside(1, 0), x -> x.beside(1, 3), x -> x.beside(1, 5),
            x -> x.beside(1, 20), x -> x.beside(1, -4), x -> x.beside(1, 6), x -> x.beside(1, LOW),
            x -> x.beside(1, HIGH));
    }

    private static String sheetsOf(GutterPages x, int size) {
        StringBuilder all = new StringBuilder();
        for (int page = 0; page < x.pages(); page++) {
            all.append(page == 0 ? "" : " ").append(x.sheet(page, size));
        }
        return all.toString();
    }

    @Says(at = "Signatures", value = SHEET)
    static void theLesserLeafTellsTheSheet() {
        due("0 1 1 0 0 1 1 0 0 1", sheetsOf(withPages(10), 4));
        due("0 1 2 3 3 2 1 0 0 1", sheetsOf(withPages(10), 8));
        due("0 1 2 3 4 5 5 4 3 2", sheetsOf(withPages(10), 12));
        due("0 1 2 3 4 5 6 7 7 6", sheetsOf(withPages(10), 16));
    }

    @Says(at = "Promise 29", value = "Returns the sheet of a page within its signature, times 2, and its side,"
        + " together.")
    static void theFirstAndTheLastLeafOfASignature() {
        // A spread at the beginning puts the page 9 on the leaf 16 of 16, and on the leaf 15 the page 8.
        due("7 7 6 5 4 3 2 1 0 0", sheetsOf(withSpreads(10, 0), 16));
        due("1 1 0 0 1 1 0 0 1 1", sheetsOf(withSpreads(10, 0), 4));
        due("5 5 5 5 5 5 5 5 5 5", sheetsOf(withSpreads(10, 0, 2, 4, 6, 8), 12));
    }

    @Says(at = "Promise 29", value = NO_PAGE)
    static void noSuchPageOnASheet() {
        refused(INDEX, () -> withPages(2), x -> x.sheet(-1, 4), x -> x.sheet(2, 4), x -> x.sheet(LOW, 4),
            x -> x.sheet(HIGH, 4), x -> x.sheet(2, 5), x -> x.sheet(-1, 0));
        refused(INDEX, () -> withPages(10), x -> x.sheet(10, 16));
    }

    @Says(at = "Promise 29", value = NO_SIZE)
    static void noSuchSignatureOfASheet() {
        refused(ARGUMENT, () -> withPages(2), x -> x.sheet(1, 0), x -> x.sheet(1, 3), x -> x.sheet(1, 5),
            x -> x.sheet(1, 20), x -> x.sheet(1, -4), x -> x.sheet(1, 6), x -> x.sheet(1, LOW),
            x -> x.sheet(1, HIGH));
    }
}
