/** A coroutining logic machine: frozen goals and disequalities that wait on variables. */
public final class FreezeDif {
    public static final int BAD = -1;
    public static final int FULL = -2;
    public static final int LOOSE = -3;
    public static final int UNSOLVED = -4;

    private static final int MAX_VARIABLES = 6;
    private static final int MAX_CELLS = 48;
    private static final int MAX_SIZE = 13;
    private static final int ATOMS = 16;
    private static final int TABLES = 4;
    private static final int TABLE_ROWS = 6;
    private static final int ALL_ROWS = TABLES * TABLE_ROWS;
    private static final int MAX_GOALS = 4;
    private static final int MAX_EQUATIONS = 4;
    private static final int MAX_DISEQUALITIES = 6;
    private static final int MAX_SOLUTIONS = TABLE_ROWS * TABLE_ROWS * TABLE_ROWS * TABLE_ROWS;
    private static final int ALL_VALUES = MAX_SOLUTIONS * MAX_VARIABLES;

    private static final int ATOM = 0;
    private static final int VARIABLE = 1;
    private static final int PAIR = 2;

    private static final int NO_CELL = -1;
    private static final long CODE_BASE = 18;
    private static final long PAIR_DIGIT = 17;

    // A walk through two terms meets fewer places than their sizes together (26 at most), and each
    // step leaves at most one place more on the stack than it found.
    private static final int WALK_STEPS = 64;
    private static final int WALK_ROOM = WALK_STEPS + 2;

    private final int variableCount;

    private int cellCount;
    private final int[] kind = new int[MAX_CELLS];
    // The atom's or the variable's number, or the pair's first part.
    private final int[] first = new int[MAX_CELLS];
    private final int[] second = new int[MAX_CELLS];
    private final int[] size = new int[MAX_CELLS];
    // The set of the variables that occur in the cell's term, bit v for variable v.
    private final int[] variablesIn = new int[MAX_CELLS];
    // The term as promise 13 writes it. No digit is 0, so two ground terms are the same iff their
    // codes are. It says nothing of a term that is not ground.
    private final long[] code = new long[MAX_CELLS];

    private final int[] rowCount = new int[TABLES];
    private final int[] rowLeft = new int[ALL_ROWS];
    private final int[] rowRight = new int[ALL_ROWS];

    private int goalCount;
    private final int[] goalTable = new int[MAX_GOALS];
    private final int[] goalX = new int[MAX_GOALS];
    private final int[] goalY = new int[MAX_GOALS];
    // A frozen goal means what a plain one does, so all that is kept of the freezing is the set of
    // variables that decides whether the query is loose.
    private int frozenOn;

    private int equationCount;
    private final int[] equationX = new int[MAX_EQUATIONS];
    private final int[] equationY = new int[MAX_EQUATIONS];

    private int disequalityCount;
    private final int[] disequalityX = new int[MAX_DISEQUALITIES];
    private final int[] disequalityY = new int[MAX_DISEQUALITIES];

    private boolean solved;
    private int solutionCount;
    // A choice is a number in base TABLE_ROWS with a digit for every goal, goal 0's the highest:
    // counting upwards meets the choices in the order in which solutions are numbered.
    private final int[] solutionChoice = new int[MAX_SOLUTIONS];
    private final long[] solutionCode = new long[ALL_VALUES];

    // The ground cell that each variable stands for under the choice that is being tried.
    private final int[] value = new int[MAX_VARIABLES];
    private final int[] walkX = new int[WALK_ROOM];
    private final int[] walkY = new int[WALK_ROOM];

    public FreezeDif(int variables) {
        variableCount = variables < 1 ? 1 : variables > MAX_VARIABLES ? MAX_VARIABLES : variables;
    }

    public int atom(int k) {
        if (cellCount >= MAX_CELLS) {
            return FULL;
        }
        if (k < 0 || k >= ATOMS) {
            return BAD;
        }
        code[cellCount] = k + 1;
        size[cellCount] = 1;
        variablesIn[cellCount] = 0;
        return addCell(ATOM, k, 0);
    }

    public int variable(int v) {
        if (cellCount >= MAX_CELLS) {
            return FULL;
        }
        if (!isVariable(v)) {
            return BAD;
        }
        code[cellCount] = 0;
        size[cellCount] = 1;
        variablesIn[cellCount] = 1 << v;
        return addCell(VARIABLE, v, 0);
    }

    public int pair(int a, int b) {
        if (cellCount >= MAX_CELLS) {
            return FULL;
        }
        if (!isCell(a) || !isCell(b) || 1 + size[a] + size[b] > MAX_SIZE) {
            return BAD;
        }
        code[cellCount] = pairCode(a, b);
        size[cellCount] = 1 + size[a] + size[b];
        variablesIn[cellCount] = variablesIn[a] | variablesIn[b];
        return addCell(PAIR, a, b);
    }

    public int addRow(int table, int left, int right) {
        if (!isTable(table) || !isGroundCell(left) || !isGroundCell(right)) {
            return BAD;
        }
        if (rowCount[table] >= TABLE_ROWS) {
            return FULL;
        }
        if (hasRow(table, left, right)) {
            return BAD;
        }
        int row = rowCount[table];
        rowLeft[table * TABLE_ROWS + row] = left;
        rowRight[table * TABLE_ROWS + row] = right;
        rowCount[table] = row + 1;
        solved = false;
        return row;
    }

    public int goal(int table, int x, int y) {
        return addGoal(table, x, y, 0);
    }

    public int freeze(int v, int table, int x, int y) {
        if (!isVariable(v)) {
            return BAD;
        }
        return addGoal(table, x, y, 1 << v);
    }

    public int equal(int x, int y) {
        if (!isCell(x) || !isCell(y)) {
            return BAD;
        }
        if (equationCount >= MAX_EQUATIONS) {
            return FULL;
        }
        equationX[equationCount] = x;
        equationY[equationCount] = y;
        equationCount++;
        solved = false;
        return equationCount;
    }

    public int differ(int x, int y) {
        if (!isCell(x) || !isCell(y)) {
            return BAD;
        }
        if (disequalityCount >= MAX_DISEQUALITIES) {
            return FULL;
        }
        disequalityX[disequalityCount] = x;
        disequalityY[disequalityCount] = y;
        disequalityCount++;
        solved = false;
        return disequalityCount;
    }

    public int solve() {
        if (solved) {
            return solutionCount;
        }
        if (isLoose()) {
            return LOOSE;
        }
        findSolutions();
        solved = true;
        return solutionCount;
    }

    public int solutions() {
        return solved ? solutionCount : UNSOLVED;
    }

    public int rowOf(int k, int goal) {
        if (!solved) {
            return UNSOLVED;
        }
        if (!isSolution(k) || goal < 0 || goal >= goalCount) {
            return BAD;
        }
        int choice = solutionChoice[k];
        for (int later = goalCount - 1; later > goal; later--) {
            choice /= TABLE_ROWS;
        }
        return choice % TABLE_ROWS;
    }

    public long valueOf(int k, int v) {
        if (!solved) {
            return UNSOLVED;
        }
        int valued = goalVariables();
        if (!isSolution(k) || !isVariable(v) || !contains(valued, v)) {
            return BAD;
        }
        return solutionCode[k * MAX_VARIABLES + v];
    }

    public boolean alike(int j, int k, int mask) {
        if (!solved || !isSolution(j) || !isSolution(k)) {
            return false;
        }
        int compared = mask & goalVariables();
        for (int v = 0; v < variableCount; v++) {
            long codeInJ = solutionCode[j * MAX_VARIABLES + v];
            long codeInK = solutionCode[k * MAX_VARIABLES + v];
            if (contains(compared, v) && codeInJ != codeInK) {
                return false;
            }
        }
        return true;
    }

    public int forget() {
        int had = goalCount;
        emptyQuery();
        return had;
    }

    public int clear() {
        int had = cellCount;
        emptyQuery();
        for (int table = 0; table < TABLES; table++) {
            rowCount[table] = 0;
        }
        cellCount = 0;
        return had;
    }

    private boolean isVariable(int v) {
        return v >= 0 && v < variableCount;
    }

    private boolean isCell(int cell) {
        return cell >= 0 && cell < cellCount;
    }

    private boolean isGroundCell(int cell) {
        return isCell(cell) && variablesIn[cell] == 0;
    }

    private boolean isTable(int table) {
        return table >= 0 && table < TABLES;
    }

    private boolean isSolution(int k) {
        return k >= 0 && k < solutionCount;
    }

    private boolean contains(int set, int v) {
        return (set >> v & 1) == 1;
    }

    private int addCell(int cellKind, int cellFirst, int cellSecond) {
        int cell = cellCount;
        kind[cell] = cellKind;
        first[cell] = cellFirst;
        second[cell] = cellSecond;
        cellCount = cell + 1;
        return cell;
    }

    private long pairCode(int a, int b) {
        long aShift = codeShift(size[a]);
        long bShift = codeShift(size[b]);
        return (PAIR_DIGIT * aShift + code[a]) * bShift + code[b];
    }

    private long codeShift(int digits) {
        long shift = 1;
        for (int i = 0; i < digits; i++) {
            shift *= CODE_BASE;
        }
        return shift;
    }

    private boolean hasRow(int table, int left, int right) {
        for (int row = 0; row < rowCount[table]; row++) {
            int at = table * TABLE_ROWS + row;
            if (code[rowLeft[at]] == code[left] && code[rowRight[at]] == code[right]) {
                return true;
            }
        }
        return false;
    }

    private int addGoal(int table, int x, int y, int frozenSet) {
        if (!isTable(table) || !isCell(x) || !isCell(y)) {
            return BAD;
        }
        if (goalCount >= MAX_GOALS) {
            return FULL;
        }
        goalTable[goalCount] = table;
        goalX[goalCount] = x;
        goalY[goalCount] = y;
        frozenOn |= frozenSet;
        solved = false;
        goalCount++;
        return goalCount - 1;
    }

    private void emptyQuery() {
        goalCount = 0;
        frozenOn = 0;
        equationCount = 0;
        disequalityCount = 0;
        solved = false;
    }

    private int goalVariables() {
        int set = 0;
        for (int g = 0; g < goalCount; g++) {
            set |= variablesIn[goalX[g]] | variablesIn[goalY[g]];
        }
        return set;
    }

    private boolean isLoose() {
        int needed = frozenOn;
        for (int e = 0; e < equationCount; e++) {
            needed |= variablesIn[equationX[e]] | variablesIn[equationY[e]];
        }
        for (int d = 0; d < disequalityCount; d++) {
            needed |= variablesIn[disequalityX[d]] | variablesIn[disequalityY[d]];
        }
        return (needed & ~goalVariables()) != 0;
    }

    private void findSolutions() {
        int choices = 1;
        for (int g = 0; g < goalCount; g++) {
            choices *= TABLE_ROWS;
        }
        solutionCount = 0;
        for (int choice = 0; choice < choices; choice++) {
            if (goalsHold(choice) && equationsHold() && disequalitiesHold()) {
                keepSolution(choice);
            }
        }
    }

    private void keepSolution(int choice) {
        solutionChoice[solutionCount] = choice;
        for (int v = 0; v < MAX_VARIABLES; v++) {
            long valueCode = value[v] == NO_CELL ? 0 : code[value[v]];
            solutionCode[solutionCount * MAX_VARIABLES + v] = valueCode;
        }
        solutionCount++;
    }

    // Rows are ground and the query is not loose, so the goals alone settle the value of every
    // variable; that is why they come before the equations and disequalities.
    private boolean goalsHold(int choice) {
        for (int v = 0; v < MAX_VARIABLES; v++) {
            value[v] = NO_CELL;
        }
        int rest = choice;
        for (int g = goalCount - 1; g >= 0; g--) {
            int row = rest % TABLE_ROWS;
            rest /= TABLE_ROWS;
            if (row >= rowCount[goalTable[g]]) {
                return false;
            }
            int at = goalTable[g] * TABLE_ROWS + row;
            if (!agree(goalX[g], rowLeft[at]) || !agree(goalY[g], rowRight[at])) {
                return false;
            }
        }
        return true;
    }

    private boolean equationsHold() {
        for (int e = 0; e < equationCount; e++) {
            if (!agree(equationX[e], equationY[e])) {
                return false;
            }
        }
        return true;
    }

    private boolean disequalitiesHold() {
        for (int d = 0; d < disequalityCount; d++) {
            if (agree(disequalityX[d], disequalityY[d])) {
                return false;
            }
        }
        return true;
    }

    // Whether x and y are the same with the variables replaced. A variable without a value is met
    // in a goal's term alone, where y is ground, and takes the part of y that it stands against.
    private boolean agree(int x, int y) {
        walkX[0] = x;
        walkY[0] = y;
        int open = 1;
        for (int step = 0; step < WALK_STEPS && open > 0; step++) {
            open--;
            int a = replaced(walkX[open]);
            int b = replaced(walkY[open]);
            if (kind[a] == VARIABLE) {
                value[first[a]] = b;
            } else if (variablesIn[a] == 0 && variablesIn[b] == 0) {
                if (code[a] != code[b]) {
                    return false;
                }
            } else if (kind[a] == PAIR && kind[b] == PAIR) {
                walkX[open] = second[a];
                walkY[open] = second[b];
                walkX[open + 1] = first[a];
                walkY[open + 1] = first[b];
                open += 2;
            } else {
                return false;
            }
        }
        return open == 0;
    }

    private int replaced(int cell) {
        if (kind[cell] == VARIABLE && value[first[cell]] != NO_CELL) {
            return value[first[cell]];
        }
        return cell;
    }
}
