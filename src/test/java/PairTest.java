/** Promise 4, and of "Terms" the sizes and which ground terms are the same. */
public final class PairTest {
    public static void main(String[] args) {
        sizesUpToThirteen();
        variablesCountInTheSize();
        sameTermsInOtherCells();
        wrongParts();
        fullIsTestedFirst();
        Due.finish();
    }

    private static void sizesUpToThirteen() {
        FreezeDif x = new FreezeDif(1);
        x.atom(5);
        // A chain of pairs with the atom: cell i has size 2i + 1.
        for (int i = 1; i <= 6; i++) {
            Due.due("size " + (2 * i + 1), x.pair(i - 1, 0), i);
        }
        Due.due("size 15, first part large", x.pair(6, 0), FreezeDif.BAD);
        Due.due("size 15, second part large", x.pair(0, 6), FreezeDif.BAD);
        Due.due("size 27", x.pair(6, 6), FreezeDif.BAD);
        Due.due("size 15 of 7 and 7", x.pair(3, 3), FreezeDif.BAD);
        Due.due("size 13 of 7 and 5", x.pair(3, 2), 7);
        Due.due("size 13 of 5 and 7", x.pair(2, 3), 8);
        Due.due("size 13 of 1 and 11", x.pair(0, 5), 9);
        Due.due("cells", x.clear(), 10);
    }

    private static void variablesCountInTheSize() {
        FreezeDif x = new FreezeDif(1);
        x.variable(0);
        for (int i = 1; i <= 6; i++) {
            Due.due("size " + (2 * i + 1), x.pair(0, i - 1), i);
        }
        Due.due("size 15", x.pair(0, 6), FreezeDif.BAD);
    }

    private static void sameTermsInOtherCells() {
        FreezeDif x = new FreezeDif(1);
        int a = x.atom(0);
        int b = x.atom(1);
        int ab = x.pair(a, b);
        int ba = x.pair(b, a);
        int leftNested = x.pair(ab, a);
        int rightNested = x.pair(a, ba);
        int otherAb = x.pair(x.atom(0), x.atom(1));
        int otherLeft = x.pair(otherAb, a);
        holds(x, "a pair in other cells", ab, otherAb, true);
        holds(x, "a nested pair in other cells", leftNested, otherLeft, true);
        holds(x, "the parts' order", ab, ba, false);
        holds(x, "the nesting", leftNested, rightNested, false);
        holds(x, "a pair and its part", ab, a, false);
    }

    private static void holds(FreezeDif x, String what, int s, int t, boolean same) {
        x.forget();
        x.equal(s, t);
        Due.due(what + ", equation", x.solve(), same ? 1 : 0);
        x.forget();
        x.differ(s, t);
        Due.due(what + ", disequality", x.solve(), same ? 0 : 1);
    }

    private static void wrongParts() {
        FreezeDif x = new FreezeDif(1);
        Due.due("no cell yet", x.pair(0, 0), FreezeDif.BAD);
        x.atom(0);
        Due.due("itself", x.pair(0, 1), FreezeDif.BAD);
        Due.due("itself", x.pair(1, 0), FreezeDif.BAD);
        for (int wild : Make.WILD) {
            Due.due("first part " + wild, x.pair(wild, 0), FreezeDif.BAD);
            Due.due("second part " + wild, x.pair(0, wild), FreezeDif.BAD);
        }
        Due.due("no cell was made", x.pair(0, 0), 1);
    }

    private static void fullIsTestedFirst() {
        FreezeDif x = Make.fullOfAtoms(1);
        Due.due("the 49th cell", x.pair(0, 1), FreezeDif.FULL);
        Due.due("full and wrong", x.pair(48, 0), FreezeDif.FULL);
        Due.due("full and wrong", x.pair(0, -1), FreezeDif.FULL);
        x.clear();
        x.atom(0);
        for (int i = 1; i < 48; i++) {
            Due.due("pair " + i, x.pair(0, 0), i);
        }
        Due.due("the 49th cell", x.pair(0, 0), FreezeDif.FULL);
    }
}
