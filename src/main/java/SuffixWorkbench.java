/**
 * Answers questions about all pieces of a text, by five ways of arranging its ends.
 *
 * The engines: 0 sorts the tails letter by letter, 1 sorts them by ranks of doubled width,
 * 2 hangs them in a tree, 3 runs through an automaton of all pieces, 4 searches backwards
 * in the column of the letters that stand before the sorted tails.
 *
 * Every question arranges the text anew: nothing has to be kept in step with its changes.
 */
public final class SuffixWorkbench {
    public static final int BAD = -1;
    public static final int FULL = -2;

    private static final int MAX_TEXT = 40;
    private static final int MAX_PATTERN = 10;
    private static final int LETTERS = 4;
    private static final int SIZE_UNIT = 64;

    private static final int BY_LETTERS = 0;
    private static final int BY_DOUBLING = 1;
    private static final int BY_TREE = 2;
    private static final int BY_AUTOMATON = 3;
    private static final int BY_LAST_COLUMN = 4;

    private static final int NONE = -1;
    private static final int ROOT = 0;
    // A tail adds at most a leaf and a split to the tree, a letter at most a state and its twin.
    private static final int MAX_NODES = 2 * MAX_TEXT + 1;
    private static final int MAX_BRANCHES = MAX_NODES * LETTERS;
    // The empty tail has a row of its own.
    private static final int MAX_ROWS = MAX_TEXT + 1;

    private final int[] text = new int[MAX_TEXT];
    private int length;
    private final int[] pattern = new int[MAX_PATTERN];
    private int patternLength;

    // What the engine that was asked last has found.
    private final int[] order = new int[MAX_TEXT];
    private int distinctFound;
    private int longestFound;
    private final boolean[] occurs = new boolean[MAX_TEXT];
    private final int[] otherOrder = new int[MAX_TEXT];

    private final int[] rank = new int[MAX_TEXT];
    private final int[] pairRank = new int[MAX_TEXT];

    // The letters on the way from the root to a node stand in the text from nodePlace on.
    private final int[] nodePlace = new int[MAX_NODES];
    private final int[] nodeDepth = new int[MAX_NODES];
    private final int[] nodeParent = new int[MAX_NODES];
    private final int[] nodeTail = new int[MAX_NODES];
    // Nothing leads back to the root, so that 0 can mean that there is no branch.
    private final int[] nodeBranch = new int[MAX_BRANCHES];
    private final int[] waitingNodes = new int[MAX_NODES];
    private int nodeCount;

    private final int[] stateLength = new int[MAX_NODES];
    private final int[] stateLink = new int[MAX_NODES];
    // The place of the last letter, for a state that a beginning of the text leads to.
    private final int[] stateEnd = new int[MAX_NODES];
    private final int[] stateTails = new int[MAX_NODES];
    private final int[] stateBranch = new int[MAX_BRANCHES];
    private int stateCount;

    private final int[] lastColumn = new int[MAX_ROWS];
    private int rowCount;

    public SuffixWorkbench() {
        length = 0;
        patternLength = 0;
    }

    public int write(int letter, int n) {
        if (!isLetter(letter) || n < 1 || n > MAX_TEXT) {
            return BAD;
        }
        if (n > MAX_TEXT - length) {
            return FULL;
        }
        for (int step = 0; step < n; step++) {
            text[length + step] = letter;
        }
        length += n;
        return length;
    }

    public int again(int back, int n) {
        if (back < 1 || back > length || n < 1 || n > MAX_TEXT) {
            return BAD;
        }
        if (n > MAX_TEXT - length) {
            return FULL;
        }
        for (int step = 0; step < n; step++) {
            text[length + step] = text[length + step - back];
        }
        length += n;
        return length;
    }

    public int change(int i, int letter) {
        if (!isPlace(i) || !isLetter(letter)) {
            return BAD;
        }
        int old = text[i];
        text[i] = letter;
        return old;
    }

    public int cut(int n) {
        if (n < 0 || n > MAX_TEXT) {
            return BAD;
        }
        length = n < length ? length - n : 0;
        return length;
    }

    public int extend(int letter) {
        if (!isLetter(letter)) {
            return BAD;
        }
        if (patternLength >= MAX_PATTERN) {
            return FULL;
        }
        pattern[patternLength] = letter;
        patternLength++;
        return patternLength;
    }

    public boolean copy(int i, int n) {
        // Not i + n: the sum of two ints may wrap around.
        if (n < 0 || n > MAX_PATTERN || i < 0 || i > length - n) {
            return false;
        }
        for (int step = 0; step < n; step++) {
            pattern[step] = text[i + step];
        }
        patternLength = n;
        return true;
    }

    public int count(int engine) {
        if (engine < BY_LETTERS || engine > BY_LAST_COLUMN) {
            return BAD;
        }
        markPattern(engine);
        int found = 0;
        for (int place = 0; place < length; place++) {
            if (occurs[place]) {
                found++;
            }
        }
        return found;
    }

    public int where(int engine, int k) {
        if (engine < BY_LETTERS || engine > BY_LAST_COLUMN || k < 0) {
            return BAD;
        }
        markPattern(engine);
        int found = 0;
        for (int place = 0; place < length; place++) {
            if (!occurs[place]) {
                continue;
            }
            if (found == k) {
                return place;
            }
            found++;
        }
        return BAD;
    }

    public int distinct(int engine) {
        if (!isArranger(engine)) {
            return BAD;
        }
        arrange(engine);
        return distinctFound;
    }

    public int longest(int engine) {
        if (!isArranger(engine)) {
            return BAD;
        }
        arrange(engine);
        return longestFound;
    }

    public int tail(int engine, int k) {
        if (!isArranger(engine) || !isPlace(k)) {
            return BAD;
        }
        arrange(engine);
        return order[k];
    }

    public boolean agree(int engine, int other) {
        if (!isArranger(engine) || !isArranger(other)) {
            return false;
        }
        arrange(other);
        int otherDistinct = distinctFound;
        int otherLongest = longestFound;
        for (int row = 0; row < length; row++) {
            otherOrder[row] = order[row];
        }
        arrange(engine);
        boolean same = distinctFound == otherDistinct && longestFound == otherLongest;
        for (int row = 0; row < length; row++) {
            same = same && order[row] == otherOrder[row];
        }
        return same;
    }

    public int piece(int k) {
        if (k < 0) {
            return BAD;
        }
        sortByLetters();
        int left = k;
        for (int row = 0; row < length; row++) {
            int place = order[row];
            // The beginnings that a tail shares with the one before it have been counted there.
            int known = sharedWithRowBefore(row);
            int fresh = length - place - known;
            if (left < fresh) {
                int size = known + 1 + left;
                return leastPlace(place, size) + SIZE_UNIT * size;
            }
            left -= fresh;
        }
        return BAD;
    }

    public int common(int i, int j) {
        if (!isPlace(i) || !isPlace(j)) {
            return BAD;
        }
        return sharedLetters(i, j, 0);
    }

    public int repeats(int t) {
        if (t < 1) {
            return BAD;
        }
        int found = 0;
        for (int place = 0; place < length; place++) {
            // Each piece is counted at its least place; a longer one never occurs more often.
            int size = mostShared(place, place) + 1;
            while (size <= length - place && timesFrom(place, size) >= t) {
                found++;
                size++;
            }
        }
        return found;
    }

    public int unique(int i) {
        if (!isPlace(i)) {
            return BAD;
        }
        int size = mostShared(i, length) + 1;
        return size <= length - i ? size : 0;
    }

    private boolean isLetter(int letter) {
        return letter >= 0 && letter < LETTERS;
    }

    private boolean isPlace(int i) {
        return i >= 0 && i < length;
    }

    private boolean isArranger(int engine) {
        return engine >= BY_LETTERS && engine <= BY_AUTOMATON;
    }

    /** Leaves the tails in order, and the engine's other findings beside them. */
    private void arrange(int engine) {
        distinctFound = 0;
        longestFound = 0;
        switch (engine) {
            case BY_LETTERS:
                sortByLetters();
                measureRows();
                break;
            case BY_DOUBLING:
                sortByDoubling();
                measurePlaces();
                break;
            case BY_TREE:
                buildTree();
                listTailsUnder(ROOT);
                measureTree();
                break;
            default:
                buildAutomaton();
                countTailsOfStates();
                listTailsOfAutomaton();
                measureAutomaton();
                break;
        }
    }

    /** Leaves in occurs at which places the pattern stands. */
    private void markPattern(int engine) {
        for (int place = 0; place < length; place++) {
            occurs[place] = false;
        }
        if (patternLength == 0) {
            return;
        }
        switch (engine) {
            case BY_LETTERS:
                markByLetters();
                break;
            case BY_DOUBLING:
                sortByDoubling();
                markByHalving();
                break;
            case BY_TREE:
                buildTree();
                markByTree();
                break;
            case BY_AUTOMATON:
                buildAutomaton();
                markByAutomaton();
                break;
            default:
                buildLastColumn();
                markByLastColumn();
                break;
        }
    }

    // Letters and places, without an engine.

    /** How many letters two tails share, when it is known that they share some already. */
    private int sharedLetters(int i, int j, int known) {
        int most = length - (i > j ? i : j);
        int same = known;
        while (same < most && text[i + same] == text[j + same]) {
            same++;
        }
        return same;
    }

    /** The most letters that a tail shares with another one that begins before the end. */
    private int mostShared(int place, int end) {
        int most = 0;
        for (int other = 0; other < end; other++) {
            int same = other == place ? 0 : sharedLetters(other, place, 0);
            most = same > most ? same : most;
        }
        return most;
    }

    private int leastPlace(int place, int size) {
        for (int other = 0; other < place; other++) {
            if (sharedLetters(other, place, 0) >= size) {
                return other;
            }
        }
        return place;
    }

    /** At how many places, from this one on, the piece that stands here occurs. */
    private int timesFrom(int place, int size) {
        int times = 0;
        for (int other = place; other < length; other++) {
            if (sharedLetters(other, place, 0) >= size) {
                times++;
            }
        }
        return times;
    }

    /** Below 0, 0 or above 0: the tail comes before, begins with, or comes after the pattern. */
    private int compareToPattern(int place) {
        for (int step = 0; step < patternLength; step++) {
            if (place + step >= length) {
                return -1;
            }
            int difference = text[place + step] - pattern[step];
            if (difference != 0) {
                return difference;
            }
        }
        return 0;
    }

    private void noteLongest(int size) {
        if (size > longestFound) {
            longestFound = size;
        }
    }

    // Engine 0: the tails sorted letter by letter.

    private void sortByLetters() {
        for (int place = 0; place < length; place++) {
            int row = place;
            while (row > 0 && comesBefore(place, order[row - 1])) {
                order[row] = order[row - 1];
                row--;
            }
            order[row] = place;
        }
    }

    private boolean comesBefore(int i, int j) {
        int same = sharedLetters(i, j, 0);
        if (i + same >= length || j + same >= length) {
            // One is the beginning of the other: the one that begins later is the shorter one.
            return i > j;
        }
        return text[i + same] < text[j + same];
    }

    private int sharedWithRowBefore(int row) {
        return row == 0 ? 0 : sharedLetters(order[row - 1], order[row], 0);
    }

    private void measureRows() {
        for (int row = 0; row < length; row++) {
            int known = sharedWithRowBefore(row);
            distinctFound += length - order[row] - known;
            noteLongest(known);
        }
    }

    private void markByLetters() {
        for (int place = 0; place < length; place++) {
            occurs[place] = compareToPattern(place) == 0;
        }
    }

    // Engine 1: the tails sorted by their ranks among the first 2, 4, 8, .. letters.

    private void sortByDoubling() {
        for (int place = 0; place < length; place++) {
            rank[place] = text[place];
        }
        // Up to the length itself, so that the ranks of a single letter are made as well.
        for (int width = 1; width <= length; width *= 2) {
            pairRanks(width);
            rankPairs();
        }
        for (int place = 0; place < length; place++) {
            order[rank[place]] = place;
        }
    }

    private void pairRanks(int width) {
        for (int place = 0; place < length; place++) {
            // A tail that has ended comes before every letter.
            int second = place + width < length ? rank[place + width] + 1 : 0;
            pairRank[place] = rank[place] * (MAX_TEXT + 1) + second;
        }
    }

    private void rankPairs() {
        for (int place = 0; place < length; place++) {
            int less = 0;
            for (int other = 0; other < length; other++) {
                if (pairRank[other] < pairRank[place]) {
                    less++;
                }
            }
            rank[place] = less;
        }
    }

    /** Goes by place, since the next tail shares at most one letter less with its neighbour. */
    private void measurePlaces() {
        int same = 0;
        for (int place = 0; place < length; place++) {
            int row = rank[place];
            same = row == 0 ? 0 : sharedLetters(order[row - 1], place, same);
            distinctFound += length - place - same;
            noteLongest(same);
            same = same > 0 ? same - 1 : 0;
        }
    }

    private void markByHalving() {
        int from = firstRowNotBelow(0);
        int to = firstRowNotBelow(1);
        for (int row = from; row < to; row++) {
            occurs[order[row]] = true;
        }
    }

    /** The first row whose tail compares to the pattern as this bound or above it. */
    private int firstRowNotBelow(int bound) {
        int low = 0;
        int high = length;
        for (int step = 0; step < length && low < high; step++) {
            int middle = (low + high) / 2;
            if (compareToPattern(order[middle]) < bound) {
                low = middle + 1;
            } else {
                high = middle;
            }
        }
        return low;
    }

    // Engine 2: the tails hung in a tree whose edges bear one letter or more.

    private void buildTree() {
        nodeCount = 0;
        newNode(ROOT, 0, 0);
        for (int place = 0; place < length; place++) {
            hangTail(place);
        }
    }

    private int newNode(int parent, int place, int depth) {
        int node = nodeCount;
        nodeCount++;
        nodeParent[node] = parent;
        nodePlace[node] = place;
        nodeDepth[node] = depth;
        nodeTail[node] = NONE;
        for (int letter = 0; letter < LETTERS; letter++) {
            nodeBranch[node * LETTERS + letter] = 0;
        }
        return node;
    }

    private void hangTail(int place) {
        int node = ROOT;
        // Each step goes down by a letter or more.
        for (int step = 0; step < length && place + nodeDepth[node] < length; step++) {
            int branch = node * LETTERS + text[place + nodeDepth[node]];
            int child = nodeBranch[branch];
            if (child == 0) {
                child = newNode(node, place, length - place);
                nodeBranch[branch] = child;
            }
            int same = sharedLetters(nodePlace[child], place, nodeDepth[node]);
            node = same < nodeDepth[child] ? splitEdge(child, branch, same) : child;
        }
        nodeTail[node] = place;
    }

    private int splitEdge(int child, int branch, int depth) {
        int middle = newNode(nodeParent[child], nodePlace[child], depth);
        int letter = text[nodePlace[child] + depth];
        nodeBranch[branch] = middle;
        nodeBranch[middle * LETTERS + letter] = child;
        nodeParent[child] = middle;
        return middle;
    }

    /** Puts the tails under a node into order and answers how many there are. */
    private int listTailsUnder(int top) {
        int found = 0;
        int waiting = 1;
        waitingNodes[0] = top;
        for (int visit = 0; visit < nodeCount && waiting > 0; visit++) {
            waiting--;
            int node = waitingNodes[waiting];
            if (nodeTail[node] != NONE) {
                order[found] = nodeTail[node];
                found++;
            }
            // The least letter is put down last, since it is taken up first.
            for (int letter = LETTERS - 1; letter >= 0; letter--) {
                int child = nodeBranch[node * LETTERS + letter];
                if (child != 0) {
                    waitingNodes[waiting] = child;
                    waiting++;
                }
            }
        }
        return found;
    }

    private void measureTree() {
        for (int node = 1; node < nodeCount; node++) {
            int parentDepth = nodeDepth[nodeParent[node]];
            distinctFound += nodeDepth[node] - parentDepth;
            // A parent has two children, or a child and a tail of its own: two places at least.
            noteLongest(parentDepth);
        }
    }

    private void markByTree() {
        int top = nodeOfPattern();
        if (top == NONE) {
            return;
        }
        int found = listTailsUnder(top);
        for (int row = 0; row < found; row++) {
            occurs[order[row]] = true;
        }
    }

    /** The highest node whose way from the root begins with the pattern. */
    private int nodeOfPattern() {
        int node = ROOT;
        for (int step = 0; step < patternLength && nodeDepth[node] < patternLength; step++) {
            int depth = nodeDepth[node];
            int child = nodeBranch[node * LETTERS + pattern[depth]];
            if (child == 0) {
                return NONE;
            }
            for (int i = depth; i < nodeDepth[child] && i < patternLength; i++) {
                if (text[nodePlace[child] + i] != pattern[i]) {
                    return NONE;
                }
            }
            node = child;
        }
        return node;
    }

    // Engine 3: the automaton that reads all pieces, with a state for each set of last places.

    private void buildAutomaton() {
        stateCount = 0;
        int last = newState(0, NONE);
        for (int place = 0; place < length; place++) {
            last = readLetter(last, place);
        }
    }

    private int newState(int size, int end) {
        int state = stateCount;
        stateCount++;
        stateLength[state] = size;
        stateEnd[state] = end;
        stateLink[state] = NONE;
        stateTails[state] = 0;
        for (int letter = 0; letter < LETTERS; letter++) {
            stateBranch[state * LETTERS + letter] = 0;
        }
        return state;
    }

    private int readLetter(int last, int place) {
        int letter = text[place];
        int fresh = newState(place + 1, place);
        int state = turnBranches(last, letter, 0, fresh);
        if (state == NONE) {
            stateLink[fresh] = ROOT;
            return fresh;
        }
        int target = stateBranch[state * LETTERS + letter];
        if (stateLength[target] == stateLength[state] + 1) {
            stateLink[fresh] = target;
            return fresh;
        }
        // The shorter pieces of the target now end at one more place than its longer ones.
        int twin = newTwin(target, stateLength[state] + 1);
        turnBranches(state, letter, target, twin);
        stateLink[target] = twin;
        stateLink[fresh] = twin;
        return fresh;
    }

    /** Turns branches along the links and answers the first state that has another branch. */
    private int turnBranches(int from, int letter, int old, int target) {
        int state = from;
        for (int step = 0; step < stateCount && state != NONE; step++) {
            if (stateBranch[state * LETTERS + letter] != old) {
                return state;
            }
            stateBranch[state * LETTERS + letter] = target;
            state = stateLink[state];
        }
        return NONE;
    }

    private int newTwin(int model, int size) {
        int twin = newState(size, NONE);
        stateLink[twin] = stateLink[model];
        for (int letter = 0; letter < LETTERS; letter++) {
            stateBranch[twin * LETTERS + letter] = stateBranch[model * LETTERS + letter];
        }
        return twin;
    }

    /** As many tails begin with a state's pieces as there are places at which these end. */
    private void countTailsOfStates() {
        for (int first = 1; first < stateCount; first++) {
            int state = stateEnd[first] == NONE ? NONE : first;
            for (int step = 0; step < stateCount && state != NONE; step++) {
                stateTails[state]++;
                state = stateLink[state];
            }
        }
    }

    private void listTailsOfAutomaton() {
        for (int row = 0; row < length; row++) {
            order[row] = tailOfAutomaton(row);
        }
    }

    private int tailOfAutomaton(int row) {
        int state = ROOT;
        int left = row;
        for (int size = 0; size < length; size++) {
            // What ends here comes before all that goes on.
            left -= tailsEndingIn(state);
            if (left < 0) {
                return length - size;
            }
            int next = ROOT;
            for (int letter = 0; letter < LETTERS && next == ROOT; letter++) {
                int target = stateBranch[state * LETTERS + letter];
                if (target != 0 && left < stateTails[target]) {
                    next = target;
                } else if (target != 0) {
                    left -= stateTails[target];
                }
            }
            state = next;
        }
        return 0;
    }

    private int tailsEndingIn(int state) {
        int ending = stateTails[state];
        for (int letter = 0; letter < LETTERS; letter++) {
            int target = stateBranch[state * LETTERS + letter];
            ending -= target == 0 ? 0 : stateTails[target];
        }
        return ending;
    }

    private void measureAutomaton() {
        for (int state = 1; state < stateCount; state++) {
            distinctFound += stateLength[state] - stateLength[stateLink[state]];
            if (stateTails[state] >= 2) {
                noteLongest(stateLength[state]);
            }
        }
    }

    private void markByAutomaton() {
        int goal = ROOT;
        for (int step = 0; step < patternLength; step++) {
            goal = stateBranch[goal * LETTERS + pattern[step]];
            if (goal == 0) {
                return;
            }
        }
        for (int state = 1; state < stateCount; state++) {
            if (stateEnd[state] != NONE && linksLeadTo(state, goal)) {
                occurs[stateEnd[state] + 1 - patternLength] = true;
            }
        }
    }

    private boolean linksLeadTo(int from, int goal) {
        int state = from;
        for (int step = 0; step < stateCount && state != NONE; step++) {
            if (state == goal) {
                return true;
            }
            state = stateLink[state];
        }
        return false;
    }

    // Engine 4: the letters before the sorted tails, NONE before the whole text.

    /** Takes the letters from the last one on, so that no tail is ever compared with another. */
    private void buildLastColumn() {
        lastColumn[0] = NONE;
        rowCount = 1;
        int whole = 0;
        for (int place = length - 1; place >= 0; place--) {
            lastColumn[whole] = text[place];
            whole = rowWithLetterBefore(text[place], whole);
            for (int row = rowCount; row > whole; row--) {
                lastColumn[row] = lastColumn[row - 1];
            }
            lastColumn[whole] = NONE;
            rowCount++;
        }
    }

    /** The row of the tail that a letter and the tail of a row make together. */
    private int rowWithLetterBefore(int letter, int row) {
        // The row of the empty tail is the first one.
        int target = 1;
        for (int other = 0; other < rowCount; other++) {
            int before = lastColumn[other];
            boolean less = before != NONE && before < letter;
            if (less || (before == letter && other < row)) {
                target++;
            }
        }
        return target;
    }

    private void markByLastColumn() {
        int from = 0;
        int to = rowCount;
        for (int step = patternLength - 1; step >= 0; step--) {
            from = rowWithLetterBefore(pattern[step], from);
            to = rowWithLetterBefore(pattern[step], to);
        }
        for (int row = from; row < to; row++) {
            occurs[placeOfRow(row)] = true;
        }
    }

    /** A tail's place is the number of letters that can be put before it. */
    private int placeOfRow(int row) {
        int at = row;
        int place = 0;
        while (place < length && lastColumn[at] != NONE) {
            at = rowWithLetterBefore(lastColumn[at], at);
            place++;
        }
        return place;
    }
}
