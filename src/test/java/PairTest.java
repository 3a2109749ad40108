/** Promise 4. Each test stands for the sentence, or the part of one, that is written over it. */
public final class PairTest {
    public static void main(String[] args) {
        everyCellCanBeAPart();
        partsThatAreNoCells();
        sizesUpToThirteen();
        sizesAboveThirteen();
        variablesCountInTheSize();
        theLastCell();
        cellsOfAllKindsCount();
        fullIsTestedFirst();
        Due.finish();
    }

    /** "Else answers the new cell's number": the last cell that is there can be a part. */
    private static void everyCellCanBeAPart() {
        for (int count = 1; count < 48; count++) {
            FreezeDif x = Make.mixedCells(count);
            int answer = count % 2 == 0 ? x.pair(0, count - 1) : x.pair(count - 1, 0);
            Due.due("a pair with cell " + (count - 1), answer, count);
        }
        FreezeDif x = new FreezeDif(1);
        x.atom(0);
        Due.due("the same cell twice", x.pair(0, 0), 1);
        Due.due("a pair in a pair", x.pair(1, 0), 2);
    }

    /** "a or b is no cell's number: BAD", and no cell is made. */
    private static void partsThatAreNoCells() {
        int[] counts = {0, 1, 2, 47};
        for (int count : counts) {
            for (int wrong : Make.outside(0, count - 1)) {
                FreezeDif x = Make.atoms(1, count);
                Due.due(count + " cells, a is " + wrong, x.pair(wrong, 0), FreezeDif.BAD);
                Due.due(count + " cells, b is " + wrong, x.pair(0, wrong), FreezeDif.BAD);
                Due.due(count + " cells, both are", x.pair(wrong, wrong), FreezeDif.BAD);
                Due.due("cells", x.clear(), count);
            }
        }
    }

    /** Cell i has size 2i + 1, for i in 0..6. */
    private static FreezeDif sizes(boolean ground) {
        FreezeDif x = new FreezeDif(1);
        if (ground) {
            x.atom(5);
        } else {
            x.variable(0);
        }
        for (int i = 1; i <= 6; i++) {
            Due.due("size " + (2 * i + 1), x.pair(i - 1, 0), i);
        }
        return x;
    }

    /** "the size of the new term would be above 13: BAD", and 13 itself is taken. */
    private static void sizesUpToThirteen() {
        FreezeDif x = sizes(true);
        for (int i = 0; i <= 5; i++) {
            int a = 2 * i + 1;
            Due.due("size 13 of " + a + " and " + (12 - a), x.pair(i, 5 - i), 7 + i);
        }
        Due.due("cells", x.clear(), 13);
    }

    /** "above 13: BAD": 15 is the next size that there is, and 27 the greatest to be asked. */
    private static void sizesAboveThirteen() {
        FreezeDif x = sizes(true);
        for (int a = 0; a <= 6; a++) {
            for (int b = 6 - a; b <= 6; b++) {
                int size = 1 + (2 * a + 1) + (2 * b + 1);
                Due.due("size " + size, x.pair(a, b), FreezeDif.BAD);
            }
        }
        Due.due("no cell was made", x.clear(), 7);
    }

    /** "The SIZE of an atom or variable is 1". */
    private static void variablesCountInTheSize() {
        FreezeDif x = sizes(false);
        Due.due("size 15", x.pair(6, 0), FreezeDif.BAD);
        Due.due("size 15", x.pair(0, 6), FreezeDif.BAD);
        Due.due("size 15", x.pair(3, 3), FreezeDif.BAD);
        Due.due("size 13", x.pair(3, 2), 7);
        Due.due("an atom", x.atom(0), 8);
        Due.due("size 13 with an atom", x.pair(8, 5), 9);
        Due.due("size 15 with an atom", x.pair(8, 6), FreezeDif.BAD);
    }

    /** "48 cells are there: FULL", and with 47 there is room for one more. */
    private static void theLastCell() {
        FreezeDif x = Make.atoms(1, 46);
        Due.due("the 47th cell", x.pair(0, 45), 46);
        Due.due("the 48th cell, of the one before", x.pair(46, 46), 47);
        Due.due("the 49th cell", x.pair(0, 0), FreezeDif.FULL);
        Due.due("the 49th cell", x.pair(0, 47), FreezeDif.FULL);
        Due.due("cells", x.clear(), 48);
        x.atom(0);
        for (int cell = 1; cell < 48; cell++) {
            Due.due("pairs alone", x.pair(0, 0), cell);
        }
        Due.due("one more", x.pair(0, 0), FreezeDif.FULL);
    }

    /** "48 cells are there", of whatever kind. */
    private static void cellsOfAllKindsCount() {
        FreezeDif x = Make.mixedCells(47);
        Due.due("47 mixed cells there", x.pair(0, 46), 47);
        Due.due("48 mixed cells there", x.pair(0, 46), FreezeDif.FULL);
    }

    /** Promise 17: "FULL is tested before BAD, as in atom", for both reasons of BAD. */
    private static void fullIsTestedFirst() {
        for (int wrong : Make.outside(0, 47)) {
            FreezeDif x = Make.atoms(1, 48);
            Due.due("full, a is " + wrong, x.pair(wrong, 0), FreezeDif.FULL);
            Due.due("full, b is " + wrong, x.pair(0, wrong), FreezeDif.FULL);
            Due.due("full, both are", x.pair(wrong, wrong), FreezeDif.FULL);
            Due.due("cells", x.clear(), 48);
        }
        FreezeDif x = sizes(true);
        for (int cell = 7; cell < 47; cell++) {
            x.atom(0);
        }
        Due.due("47 cells, size 15", x.pair(6, 0), FreezeDif.BAD);
        Due.due("the 48th cell", x.pair(5, 0), 47);
        Due.due("48 cells, size 15", x.pair(6, 0), FreezeDif.FULL);
        Due.due("48 cells, size 27", x.pair(6, 47), FreezeDif.FULL);
    }
}
