public final class MarkupTreeBuilder {
    public static final int ROOT = 0;
    public static final int B = 1;
    public static final int I = 2;
    public static final int U = 3;
    public static final int EM = 4;
    public static final int S = 5;
    public static final int SPAN = 6;
    public static final int DIV = 7;
    public static final int P = 8;
    public static final int UL = 9;
    public static final int LI = 10;
    public static final int OBJECT = 11;
    public static final int BR = 12;
    public static final int TEXT = 13;
    public static final int COMMENT = 14;
    public static final int NOT_PARSED = 0;
    public static final int DONE = 1;
    public static final int FULL = 2;

    private static final int LEAST_INPUT = 16;
    private static final int MOST_INPUT = 256;
    private static final int LEAST_NODES = 8;
    private static final int MOST_NODES = 64;
    private static final int LEAST_ATTR = 16;
    private static final int MOST_ATTR = 256;

    // An attribute takes at least a letter and the character that parts it from the one before.
    private static final int MOST_TAG_ATTRIBUTES = 128;

    // Text and comments together are never longer than the input; clones share their text.
    private static final int MOST_DATA = MOST_INPUT + MOST_ATTR;

    // 63 elements of at most 256 + 17 characters, and 256 text characters written as 5 each.
    private static final int MOST_SERIAL = 20000;

    private static final int NONE = -1;
    private static final int MARKER = -1;
    private static final int OUT_OF_RANGE_ENTRY = -2;

    private static final int DQ = 34;
    // The one bit in which 'A' and 'a' differ: setting it folds a letter.
    private static final int FOLD_BIT = 32;

    private static final int NOTHING_TOKEN = 0;
    private static final int TEXT_TOKEN = 1;
    private static final int COMMENT_TOKEN = 2;
    private static final int START_TOKEN = 3;
    private static final int END_TOKEN = 4;

    // Around an attribute's name and value stand ' ', '=' and two DQ.
    private static final int ATTRIBUTE_FRAME = 4;
    private static final int MOST_ROUNDS = 8;
    private static final int MOST_CLONED = 3;
    private static final int MOST_ALIKE = 3;

    // A name is held as its letters' codes, a byte each, the last letter lowest.
    private static final int NAME_SHIFT = 8;
    private static final int NAME_MASK = 255;
    private static final int TOP_LETTER_SHIFT = 56;
    private static final long NAME_B = 'b';
    private static final long NAME_I = 'i';
    private static final long NAME_U = 'u';
    private static final long NAME_EM = 'e' << 8 | 'm';
    private static final long NAME_S = 's';
    private static final long NAME_SPAN = 's' << 24 | 'p' << 16 | 'a' << 8 | 'n';
    private static final long NAME_DIV = 'd' << 16 | 'i' << 8 | 'v';
    private static final long NAME_P = 'p';
    private static final long NAME_UL = 'u' << 8 | 'l';
    private static final long NAME_LI = 'l' << 8 | 'i';
    private static final long NAME_OBJECT =
        (long) ('o' << 8 | 'b') << 32 | 'j' << 24 | 'e' << 16 | 'c' << 8 | 't';
    private static final long NAME_BR = 'b' << 8 | 'r';

    private final int inputCap;
    private final int nodeCap;
    private final int attrCap;
    private int state;

    private final char[] input = new char[MOST_INPUT];
    private int inputLength;
    private int readAt;

    // What the token just read holds.
    private int textChar;
    private int commentStart;
    private int commentEnd;
    private int tagKind;
    private int tagAttributes;
    private final int[] nameStart = new int[MOST_TAG_ATTRIBUTES];
    private final int[] nameEnd = new int[MOST_TAG_ATTRIBUTES];
    private final int[] valueStart = new int[MOST_TAG_ATTRIBUTES];
    private final int[] valueEnd = new int[MOST_TAG_ATTRIBUTES];

    private int nodes;
    private final int[] kinds = new int[MOST_NODES];
    private final int[] parents = new int[MOST_NODES];
    private final int[] firstChild = new int[MOST_NODES];
    private final int[] lastChild = new int[MOST_NODES];
    private final int[] nextSibling = new int[MOST_NODES];
    private final int[] previousSibling = new int[MOST_NODES];
    private final int[] dataStart = new int[MOST_NODES];
    private final int[] dataSize = new int[MOST_NODES];
    private final char[] data = new char[MOST_DATA];
    private int dataUsed;
    private int attrUsed;

    private final int[] stack = new int[MOST_NODES];
    private int stackUsed;
    private final int[] list = new int[MOST_NODES];
    private int listUsed;
    private int bookmark;

    private final char[] serial = new char[MOST_SERIAL];
    private int serialUsed;

    public MarkupTreeBuilder(int inputCap, int nodeCap, int attrCap) {
        this.inputCap = clamp(inputCap, LEAST_INPUT, MOST_INPUT);
        this.nodeCap = clamp(nodeCap, LEAST_NODES, MOST_NODES);
        this.attrCap = clamp(attrCap, LEAST_ATTR, MOST_ATTR);
        startOver();
    }

    public boolean feed(int ch) {
        if (state != NOT_PARSED || inputLength >= inputCap) {
            return false;
        }
        if (ch != '\t' && ch != '\n' && (ch < ' ' || ch > '~')) {
            return false;
        }
        input[inputLength] = (char) ch;
        inputLength++;
        return true;
    }

    public int parse() {
        if (state != NOT_PARSED) {
            return state;
        }
        for (int token = 0; token < MOST_INPUT && readAt < inputLength && state == NOT_PARSED; token++) {
            int type = readToken();
            if (type == TEXT_TOKEN) {
                addText();
            } else if (type == COMMENT_TOKEN) {
                addComment();
            } else if (type == START_TOKEN) {
                openTag();
            } else if (type == END_TOKEN) {
                closeTag();
            }
        }
        if (state == NOT_PARSED) {
            state = DONE;
        }
        writeTree();
        return state;
    }

    public void reset() {
        startOver();
    }

    public int status() {
        return state;
    }

    public int nodeCount() {
        return nodes;
    }

    public int nodeKind(int n) {
        return isNode(n) ? kinds[n] : NONE;
    }

    public int nodeParent(int n) {
        return isNode(n) ? parents[n] : NONE;
    }

    public int nodeChild(int n, int k) {
        if (!isNode(n) || k < 0) {
            return NONE;
        }
        int child = firstChild[n];
        for (int i = 0; i < k && child != NONE; i++) {
            child = nextSibling[child];
        }
        return child;
    }

    public int dataLength(int n) {
        return isNode(n) ? dataSize[n] : NONE;
    }

    public char dataChar(int n, int k) {
        if (!isNode(n) || k < 0 || k >= dataSize[n]) {
            return 0;
        }
        return data[dataStart[n] + k];
    }

    public int stackSize() {
        return stackUsed;
    }

    public int stackNode(int i) {
        return i >= 0 && i < stackUsed ? stack[i] : NONE;
    }

    public int listSize() {
        return listUsed;
    }

    public int listEntry(int i) {
        return i >= 0 && i < listUsed ? list[i] : OUT_OF_RANGE_ENTRY;
    }

    public int serialLength() {
        return serialUsed;
    }

    public char serialChar(int k) {
        return k >= 0 && k < serialUsed ? serial[k] : 0;
    }

    private static int clamp(int value, int least, int greatest) {
        if (value < least) {
            return least;
        }
        return value > greatest ? greatest : value;
    }

    private void startOver() {
        state = NOT_PARSED;
        inputLength = 0;
        readAt = 0;
        dataUsed = 0;
        attrUsed = 0;
        serialUsed = 0;
        listUsed = 0;
        bookmark = 0;
        nodes = 0;
        int root = createNode(ROOT, 0, 0);
        stack[0] = root;
        stackUsed = 1;
    }

    private boolean isNode(int n) {
        return n >= 0 && n < nodes;
    }

    // ---- Tokenizer ----

    private static boolean isLetter(int c) {
        return c >= 'a' && c <= 'z' || c >= 'A' && c <= 'Z';
    }

    // Past the end it answers 0, which no input character is, so that no rule fits there.
    private int inputAt(int position) {
        return position < inputLength ? input[position] : 0;
    }

    private int readToken() {
        if (inputAt(readAt) != '<') {
            readTextChar();
            return TEXT_TOKEN;
        }
        int second = inputAt(readAt + 1);
        int third = inputAt(readAt + 2);
        if (second == '!' && third == '-' && inputAt(readAt + 3) == '-') {
            readComment();
            return COMMENT_TOKEN;
        }
        if (second == '/' && isLetter(third)) {
            return readEndTag();
        }
        if (isLetter(second)) {
            return readStartTag();
        }
        textChar = '<';
        readAt++;
        return TEXT_TOKEN;
    }

    private void readTextChar() {
        textChar = inputAt(readAt);
        if (textChar != '&') {
            readAt++;
            return;
        }
        int second = inputAt(readAt + 1);
        int third = inputAt(readAt + 2);
        int fourth = inputAt(readAt + 3);
        if (second == 'l' && third == 't' && fourth == ';') {
            textChar = '<';
            readAt += 4;
        } else if (second == 'a' && third == 'm' && fourth == 'p' && inputAt(readAt + 4) == ';') {
            readAt += 5;
        } else {
            readAt++;
        }
    }

    private void readComment() {
        commentStart = readAt + 4;
        for (int at = commentStart; at < inputLength; at++) {
            if (input[at] == '-' && inputAt(at + 1) == '-' && inputAt(at + 2) == '>') {
                commentEnd = at;
                readAt = at + 3;
                return;
            }
        }
        commentEnd = inputLength;
        readAt = inputLength;
    }

    private int readEndTag() {
        readAt += 2;
        tagKind = readTagName();
        readAt = findInput('>', readAt);
        if (readAt == inputLength) {
            return NOTHING_TOKEN;
        }
        readAt++;
        return tagKind == NONE ? NOTHING_TOKEN : END_TOKEN;
    }

    private int readStartTag() {
        readAt++;
        tagKind = readTagName();
        tagAttributes = 0;
        for (int step = 0; step < MOST_INPUT && readAt < inputLength; step++) {
            int c = input[readAt];
            if (c == '>') {
                readAt++;
                return tagKind == NONE ? NOTHING_TOKEN : START_TOKEN;
            }
            if (isLetter(c)) {
                readAttribute();
            } else {
                readAt++;
            }
        }
        return NOTHING_TOKEN;
    }

    // Answers the kind that bears the name, NONE if the name is unknown.
    private int readTagName() {
        int end = endOfLetters(readAt);
        long name = 0;
        for (int at = readAt; at < end; at++) {
            // A name of more letters than the long holds must not fold onto a known one.
            boolean tooLong = name >>> TOP_LETTER_SHIFT != 0;
            name = tooLong ? name : name << NAME_SHIFT | input[at] | FOLD_BIT;
        }
        readAt = end;
        for (int kind = B; kind <= BR; kind++) {
            if (nameOf(kind) == name) {
                return kind;
            }
        }
        return NONE;
    }

    private static long nameOf(int kind) {
        switch (kind) {
            case B: return NAME_B;
            case I: return NAME_I;
            case U: return NAME_U;
            case EM: return NAME_EM;
            case S: return NAME_S;
            case SPAN: return NAME_SPAN;
            case DIV: return NAME_DIV;
            case P: return NAME_P;
            case UL: return NAME_UL;
            case LI: return NAME_LI;
            case OBJECT: return NAME_OBJECT;
            case BR: return NAME_BR;
            default: return 0;
        }
    }

    private int endOfLetters(int start) {
        for (int at = start; at < inputLength; at++) {
            if (!isLetter(input[at])) {
                return at;
            }
        }
        return inputLength;
    }

    // Answers the end of the input where the character does not come any more.
    private int findInput(int c, int start) {
        for (int at = start; at < inputLength; at++) {
            if (input[at] == c) {
                return at;
            }
        }
        return inputLength;
    }

    private void readAttribute() {
        int start = readAt;
        int end = endOfLetters(start);
        int valueFrom = end;
        int valueTo = end;
        readAt = end;
        if (inputAt(end) == '=' && inputAt(end + 1) == DQ) {
            valueFrom = end + 2;
            valueTo = findInput(DQ, valueFrom);
            if (valueTo == inputLength) {
                readAt = inputLength;
                return;
            }
            readAt = valueTo + 1;
        } else if (inputAt(end) == '=') {
            readAt = end + 1;
        }
        if (tagAttributes < MOST_TAG_ATTRIBUTES && !isNameKept(start, end)) {
            nameStart[tagAttributes] = start;
            nameEnd[tagAttributes] = end;
            valueStart[tagAttributes] = valueFrom;
            valueEnd[tagAttributes] = valueTo;
            tagAttributes++;
        }
    }

    private boolean isNameKept(int start, int end) {
        for (int i = 0; i < tagAttributes; i++) {
            if (nameEnd[i] - nameStart[i] == end - start && sameName(nameStart[i], start, end)) {
                return true;
            }
        }
        return false;
    }

    private boolean sameName(int kept, int start, int end) {
        for (int at = start; at < end; at++) {
            if ((input[kept + at - start] | FOLD_BIT) != (input[at] | FOLD_BIT)) {
                return false;
            }
        }
        return true;
    }

    // ---- Nodes ----

    // Answers NONE, and ends the parse with FULL, where there is no room.
    private int createNode(int kind, int start, int size) {
        if (nodes >= nodeCap) {
            state = FULL;
            return NONE;
        }
        int node = nodes;
        nodes++;
        kinds[node] = kind;
        parents[node] = NONE;
        firstChild[node] = NONE;
        lastChild[node] = NONE;
        nextSibling[node] = NONE;
        previousSibling[node] = NONE;
        dataStart[node] = start;
        dataSize[node] = size;
        return node;
    }

    private int cloneOf(int node) {
        return createNode(kinds[node], dataStart[node], dataSize[node]);
    }

    private void append(int node, int newParent) {
        int oldParent = parents[node];
        int before = previousSibling[node];
        int after = nextSibling[node];
        if (before != NONE) {
            nextSibling[before] = after;
        } else if (oldParent != NONE) {
            firstChild[oldParent] = after;
        }
        if (after != NONE) {
            previousSibling[after] = before;
        } else if (oldParent != NONE) {
            lastChild[oldParent] = before;
        }
        int last = lastChild[newParent];
        if (last != NONE) {
            nextSibling[last] = node;
        } else {
            firstChild[newParent] = node;
        }
        previousSibling[node] = last;
        nextSibling[node] = NONE;
        lastChild[newParent] = node;
        parents[node] = newParent;
    }

    private void storeChar(int c) {
        if (dataUsed < MOST_DATA) {
            data[dataUsed] = (char) c;
            dataUsed++;
        }
    }

    private void storeInput(int start, int end) {
        for (int at = start; at < end; at++) {
            storeChar(input[at]);
        }
    }

    private int attributesLength() {
        int length = 0;
        for (int i = 0; i < tagAttributes; i++) {
            length += nameEnd[i] - nameStart[i] + valueEnd[i] - valueStart[i] + ATTRIBUTE_FRAME;
        }
        return length;
    }

    private void storeAttributes() {
        for (int i = 0; i < tagAttributes; i++) {
            storeChar(' ');
            for (int at = nameStart[i]; at < nameEnd[i]; at++) {
                storeChar(input[at] | FOLD_BIT);
            }
            storeChar('=');
            storeChar(DQ);
            storeInput(valueStart[i], valueEnd[i]);
            storeChar(DQ);
        }
    }

    private boolean sameElement(int a, int b) {
        if (kinds[a] != kinds[b] || dataSize[a] != dataSize[b]) {
            return false;
        }
        for (int k = 0; k < dataSize[a]; k++) {
            if (data[dataStart[a] + k] != data[dataStart[b] + k]) {
                return false;
            }
        }
        return true;
    }

    private static boolean isFormatting(int kind) {
        return kind >= B && kind <= S;
    }

    private static boolean isSpecial(int kind) {
        return kind == ROOT || kind >= DIV && kind <= BR;
    }

    // ---- Stack ----

    private int currentNode() {
        return stack[stackUsed - 1];
    }

    // ROOT always stays, here and below: every step takes for granted that there is a current node.
    private void pop() {
        if (stackUsed > 1) {
            stackUsed--;
        }
    }

    private int stackPosition(int node) {
        for (int i = stackUsed - 1; i >= 0; i--) {
            if (stack[i] == node) {
                return i;
            }
        }
        return NONE;
    }

    private void insertOnStack(int position, int node) {
        if (stackUsed >= MOST_NODES) {
            return;
        }
        for (int i = stackUsed; i > position; i--) {
            stack[i] = stack[i - 1];
        }
        stack[position] = node;
        stackUsed++;
    }

    private void removeFromStack(int position) {
        stackUsed--;
        for (int i = position; i < stackUsed; i++) {
            stack[i] = stack[i + 1];
        }
    }

    private boolean isKindInScope(int kind, boolean listItemScope) {
        for (int i = stackUsed - 1; i >= 0; i--) {
            int seen = kinds[stack[i]];
            if (seen == kind) {
                return true;
            }
            if (seen == ROOT || seen == OBJECT || listItemScope && seen == UL) {
                return false;
            }
        }
        return false;
    }

    private boolean isNodeInScope(int node) {
        for (int i = stackUsed - 1; i >= 0; i--) {
            if (stack[i] == node) {
                return true;
            }
            int seen = kinds[stack[i]];
            if (seen == ROOT || seen == OBJECT) {
                return false;
            }
        }
        return false;
    }

    // An except that is neither P nor LI excepts nothing.
    private void popImplied(int except) {
        for (int i = stackUsed - 1; i > 0; i--) {
            int kind = kinds[stack[i]];
            if (kind == except || kind != P && kind != LI) {
                return;
            }
            stackUsed = i;
        }
    }

    private void popUntilKind(int kind) {
        for (int i = stackUsed - 1; i > 0; i--) {
            stackUsed = i;
            if (kinds[stack[i]] == kind) {
                return;
            }
        }
    }

    private void popUntilNode(int node) {
        for (int i = stackUsed - 1; i > 0; i--) {
            stackUsed = i;
            if (stack[i] == node) {
                return;
            }
        }
    }

    private void closeP() {
        popImplied(P);
        popUntilKind(P);
    }

    private void closePInScope() {
        if (isKindInScope(P, false)) {
            closeP();
        }
    }

    private void closeListItem() {
        popImplied(LI);
        popUntilKind(LI);
    }

    // Answers NONE where there is no room.
    private int insertElement(int kind, int start, int size) {
        int node = createNode(kind, start, size);
        if (node != NONE) {
            int parent = currentNode();
            append(node, parent);
            insertOnStack(stackUsed, node);
        }
        return node;
    }

    // ---- List ----

    private int listPosition(int node) {
        for (int i = listUsed - 1; i >= 0; i--) {
            if (list[i] == node) {
                return i;
            }
        }
        return NONE;
    }

    private int afterLastMarker() {
        for (int i = listUsed - 1; i >= 0; i--) {
            if (list[i] == MARKER) {
                return i + 1;
            }
        }
        return 0;
    }

    private void insertInList(int position, int entry) {
        if (listUsed >= MOST_NODES) {
            return;
        }
        for (int i = listUsed; i > position; i--) {
            list[i] = list[i - 1];
        }
        list[position] = entry;
        listUsed++;
    }

    private void removeFromList(int position) {
        listUsed--;
        for (int i = position; i < listUsed; i++) {
            list[i] = list[i + 1];
        }
        if (position < bookmark) {
            bookmark--;
        }
    }

    private void pushFormatting(int node) {
        int alike = 0;
        int earliest = NONE;
        int from = afterLastMarker();
        for (int i = listUsed - 1; i >= from; i--) {
            if (sameElement(list[i], node)) {
                alike++;
                earliest = i;
            }
        }
        if (alike >= MOST_ALIKE) {
            removeFromList(earliest);
        }
        insertInList(listUsed, node);
    }

    private boolean isOpenOrMarker(int entry) {
        return entry == MARKER || stackPosition(entry) != NONE;
    }

    private void reconstruct() {
        int first = listUsed;
        for (int i = listUsed - 1; i >= 0; i--) {
            if (isOpenOrMarker(list[i])) {
                break;
            }
            first = i;
        }
        for (int p = first; p < listUsed; p++) {
            int old = list[p];
            int node = insertElement(kinds[old], dataStart[old], dataSize[old]);
            if (node == NONE) {
                return;
            }
            list[p] = node;
        }
    }

    private void clearToMarker() {
        for (int i = listUsed - 1; i >= 0; i--) {
            boolean marker = list[i] == MARKER;
            removeFromList(i);
            if (marker) {
                return;
            }
        }
    }

    // ---- Text and comments ----

    private void addText() {
        reconstruct();
        if (state == FULL) {
            return;
        }
        int parent = currentNode();
        int node = lastChild[parent];
        if (node == NONE || kinds[node] != TEXT) {
            node = createNode(TEXT, dataUsed, 0);
            if (node == NONE) {
                return;
            }
            append(node, parent);
        }
        // A TEXT node that can still grow ends where the data ends: other data comes only with a new
        // node, and then the text is no last child any more or its parent has left the stack for good.
        storeChar(textChar);
        dataSize[node]++;
    }

    private void addComment() {
        int node = createNode(COMMENT, dataUsed, commentEnd - commentStart);
        if (node == NONE) {
            return;
        }
        storeInput(commentStart, commentEnd);
        int parent = currentNode();
        append(node, parent);
    }

    // ---- Start tags ----

    private void openTag() {
        int size = attributesLength();
        if (size > attrCap - attrUsed) {
            state = FULL;
            return;
        }
        attrUsed += size;
        int start = dataUsed;
        storeAttributes();
        openElement(tagKind, start, size);
    }

    private void openElement(int kind, int start, int size) {
        if (kind == LI) {
            closeOpenListItem();
        }
        if (kind == DIV || kind == P || kind == UL || kind == LI) {
            closePInScope();
        } else {
            reconstruct();
        }
        if (state == FULL) {
            return;
        }
        int node = insertElement(kind, start, size);
        if (node == NONE) {
            return;
        }
        if (kind == OBJECT) {
            insertInList(listUsed, MARKER);
        } else if (kind == BR) {
            pop();
        } else if (isFormatting(kind)) {
            pushFormatting(node);
        }
    }

    private void closeOpenListItem() {
        for (int i = stackUsed - 1; i >= 0; i--) {
            int kind = kinds[stack[i]];
            if (kind == LI) {
                closeListItem();
                return;
            }
            if (kind == ROOT || kind == UL || kind == OBJECT || kind == BR) {
                return;
            }
        }
    }

    // ---- End tags ----

    private void closeTag() {
        switch (tagKind) {
            case DIV:
            case UL:
            case OBJECT:
                closeBlock(tagKind);
                break;
            case P:
                closeParagraph();
                break;
            case LI:
                if (isKindInScope(LI, true)) {
                    closeListItem();
                }
                break;
            case BR:
                openElement(BR, 0, 0);
                break;
            case SPAN:
                closeOther(SPAN);
                break;
            default:
                adopt(tagKind);
        }
    }

    private void closeBlock(int kind) {
        if (!isKindInScope(kind, false)) {
            return;
        }
        popImplied(NONE);
        popUntilKind(kind);
        if (kind == OBJECT) {
            clearToMarker();
        }
    }

    private void closeParagraph() {
        if (!isKindInScope(P, false)) {
            int node = insertElement(P, 0, 0);
            if (node == NONE) {
                return;
            }
        }
        closeP();
    }

    private void closeOther(int kind) {
        for (int i = stackUsed - 1; i >= 0; i--) {
            int node = stack[i];
            if (kinds[node] == kind) {
                popImplied(kind);
                popUntilNode(node);
                return;
            }
            if (isSpecial(kinds[node])) {
                return;
            }
        }
    }

    // ---- Adoption ----

    private void adopt(int kind) {
        int current = currentNode();
        if (kinds[current] == kind && listPosition(current) == NONE) {
            pop();
            return;
        }
        for (int round = 0; round < MOST_ROUNDS; round++) {
            int formatting = findFormatting(kind);
            if (formatting == NONE) {
                closeOther(kind);
                return;
            }
            int block = closeOrFindBlock(formatting);
            if (block == NONE) {
                return;
            }
            int last = cloneBetween(formatting, block);
            if (last == NONE) {
                return;
            }
            moveBlock(formatting, block, last);
            if (state == FULL) {
                return;
            }
        }
    }

    private int findFormatting(int kind) {
        int from = afterLastMarker();
        for (int i = listUsed - 1; i >= from; i--) {
            if (kinds[list[i]] == kind) {
                return list[i];
            }
        }
        return NONE;
    }

    // Steps A4 and A5: answers NONE where the adoption has ended with them.
    private int closeOrFindBlock(int formatting) {
        int entry = listPosition(formatting);
        int position = stackPosition(formatting);
        if (position == NONE) {
            removeFromList(entry);
            return NONE;
        }
        if (!isNodeInScope(formatting)) {
            return NONE;
        }
        for (int i = position + 1; i < stackUsed; i++) {
            if (isSpecial(kinds[stack[i]])) {
                return stack[i];
            }
        }
        popUntilNode(formatting);
        removeFromList(entry);
        return NONE;
    }

    // Steps A6 and A7: answers the node that A8 appends, NONE where there is no room.
    private int cloneBetween(int formatting, int block) {
        int bottom = stackPosition(formatting);
        int top = stackPosition(block);
        int last = block;
        bookmark = listPosition(formatting);
        for (int j = top - 1; j > bottom; j--) {
            int node = stack[j];
            int entry = listPosition(node);
            if (top - j > MOST_CLONED && entry != NONE) {
                removeFromList(entry);
                entry = NONE;
            }
            if (entry == NONE) {
                removeFromStack(j);
                continue;
            }
            int clone = cloneOf(node);
            if (clone == NONE) {
                return NONE;
            }
            list[entry] = clone;
            stack[j] = clone;
            if (last == block) {
                bookmark = entry + 1;
            }
            append(last, clone);
            last = clone;
        }
        return last;
    }

    // Step A8.
    private void moveBlock(int formatting, int block, int last) {
        int position = stackPosition(formatting);
        append(last, stack[position - 1]);
        int clone = cloneOf(formatting);
        if (clone == NONE) {
            return;
        }
        for (int moved = 0; moved < MOST_NODES && firstChild[block] != NONE; moved++) {
            append(firstChild[block], clone);
        }
        append(clone, block);
        int entry = listPosition(formatting);
        removeFromList(entry);
        insertInList(bookmark, clone);
        removeFromStack(position);
        int above = stackPosition(block) + 1;
        insertOnStack(above, clone);
    }

    // ---- Serialization ----

    // Each node is entered once and left once; going by parents needs no stack of its own.
    private void writeTree() {
        int node = 0;
        boolean leaving = false;
        for (int step = 0; step < 2 * MOST_NODES; step++) {
            if (!leaving) {
                writeOpening(node);
                leaving = firstChild[node] == NONE;
                node = leaving ? node : firstChild[node];
            } else if (node == 0) {
                return;
            } else {
                writeClosing(node);
                leaving = nextSibling[node] == NONE;
                node = leaving ? parents[node] : nextSibling[node];
            }
        }
    }

    private void writeOpening(int node) {
        int kind = kinds[node];
        if (kind == TEXT) {
            writeText(node);
        } else if (kind == COMMENT) {
            write('<');
            write('!');
            write('-');
            write('-');
            writeData(node);
            write('-');
            write('-');
            write('>');
        } else if (kind != ROOT) {
            write('<');
            writeName(kind);
            writeData(node);
            write('>');
        }
    }

    private void writeClosing(int node) {
        int kind = kinds[node];
        if (kind >= B && kind < BR) {
            write('<');
            write('/');
            writeName(kind);
            write('>');
        }
    }

    private void writeName(int kind) {
        long name = nameOf(kind);
        for (int shift = TOP_LETTER_SHIFT; shift >= 0; shift -= NAME_SHIFT) {
            int letter = (int) (name >>> shift) & NAME_MASK;
            if (letter != 0) {
                write(letter);
            }
        }
    }

    private void writeData(int node) {
        for (int k = 0; k < dataSize[node]; k++) {
            write(data[dataStart[node] + k]);
        }
    }

    private void writeText(int node) {
        for (int k = 0; k < dataSize[node]; k++) {
            int c = data[dataStart[node] + k];
            if (c == '<') {
                write('&');
                write('l');
                write('t');
                write(';');
            } else if (c == '&') {
                write('&');
                write('a');
                write('m');
                write('p');
                write(';');
            } else {
                write(c);
            }
        }
    }

    private void write(int c) {
        if (serialUsed < MOST_SERIAL) {
            serial[serialUsed] = (char) c;
            serialUsed++;
        }
    }
}
