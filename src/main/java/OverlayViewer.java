import java.util.Arrays;

/**
 * A viewer of bytes: images with layers of edits upon them, structures that are told in a small language and laid
 * over an image as a tree of nodes. The words in capitals are those of the document.
 */
public final class OverlayViewer {
    public static final int NONE = -1, FULL = -2, RANGE = -3, KIND = -4, OUTSIDE = -5, MANY = -6, STATE = -7;

    private static final int IMAGES_MOST = 6, BYTES_MOST = 2000, LAYERS_MOST = 4, WRITES_MOST = 20, WIDTH_MOST = 8;
    private static final int TAPE_MOST = 3000, STRUCTURES_MOST = 20, FIELDS_MOST = 14, ENUMS_MOST = 8;
    private static final int PAIRS_MOST = 10, PARTS_MOST = 12, CASES_MOST = 8, MAGIC_MOST = 16, NESTS_MOST = 15;
    private static final int PART_MOST = 64, PAD_MOST = 64, TIMES_MOST = 4096, BYTE_MOST = 255;
    private static final int SIZE_MOST = 1000000, TEXT_MOST = 2000, ARRAY_MOST = 200;
    private static final int TREES_MOST = 6, NODES_MOST = 400, STRUCTS_MOST = 20;

    /** A call that reads a text answers this less the PLACE, or the number of the TOKEN, that is at fault. */
    private static final int FAULT_BASE = -10;

    /** The KINDS of NODES; a field has the KIND of the NODE that is made of it. */
    private static final int STRUCT = 0, WHOLE = 1, ARRAY = 2, BITS = 3, PART = 4, TEXT = 5, UNION = 6, POINTER = 7,
            PAD = 8, MAGIC = 9, SUM = 10;

    /** The FAULTS of a text. */
    private static final int NO_TOKEN = 1, MISPLACED = 2, TOLD_ALREADY = 3, NOT_TOLD = 4, TOO_MUCH = 5, NO_SIZE = 6;

    /** The FAULTS of a NODE. */
    private static final int BEYOND = 1, NOT_MAGIC = 2, NOT_DUE = 3, NO_PAIR = 4, OUT_OF_BOUNDS = 5, FAILS = 6,
            NO_CASE = 7, NO_AIM = 8, TOO_DEEP = 9;

    /** The kinds of TOKENS; a SIGN's kind is its own byte, a KEYWORD's is KEY_ENUM and its number in KEYWORDS. */
    private static final int END = 0, BAD = 1, NAME = 2, NUMBER = 3, TYPE = 4;
    private static final int KEY_ENUM = 200, KEY_STRUCT = 201, KEY_IF = 202, KEY_IS = 203, KEY_BITS = 204,
            KEY_TEXT = 205, KEY_UNTIL = 206, KEY_UNION = 207, KEY_BY = 208, KEY_ELSE = 209, KEY_TO = 210,
            KEY_FROM = 211, KEY_HERE = 212, KEY_TIMES = 213, KEY_PAD = 214, KEY_MAGIC = 215, KEY_SUM = 216,
            KEY_ADD = 217, KEY_XOR = 218, KEY_ONES = 219, KEY_ROLL = 220, KEY_OF = 221, KEY_LEFT = 222,
            KEY_BEGIN = 223, KEY_AND = 224, KEY_OR = 225, KEY_NOT = 226;
    private static final int KEYWORD_COUNT = 27;
    private static final String KEYWORDS = "enum struct if is bits text until union by else to from here times pad magic sum add xor ones roll of left begin and or not ";
    private static final String SIGNS = "{}()[];:,=<>+-*/%&";

    /** A '-' ahead of a factor; all other steps of an expression are the kinds of their TOKENS. */
    private static final int STEP_MINUS = 5;

    /** A NAME in an expression stands for a field's number times this, and for a part its own from 1 on. */
    private static final int NAME_SPAN = PARTS_MOST + 1;

    /** The levels of an expr, from 'or' that binds least to the factors; comparisons stand once at most. */
    private static final int LEVEL_COMPARE = 2, LEVEL_FACTOR = 5;

    private final Image[] images = new Image[IMAGES_MOST];
    private int imageCount;
    private final Tape tape = new Tape();
    private final Parser parser = new Parser();
    private final Reckoner reckoner = new Reckoner();
    private Description description = new Description();
    private Description spareDescription = new Description();
    private final Code question = new Code();
    private final Tree[] trees = new Tree[TREES_MOST];
    /** A TREE is LAID here first, so that MANY leaves the others as they are. */
    private Tree spareTree = new Tree();
    private int treeCount;
    private int lastFault;
    private long lastOut;
    private final int[] pattern = new int[TAPE_MOST];
    private final int[] mask = new int[TAPE_MOST];
    private final int[] marks = new int[BYTES_MOST + 1];

    public OverlayViewer() {
    }

    // ---- images

    public int image() {
        if (imageCount >= IMAGES_MOST) {
            return FULL;
        }
        images[imageCount] = new Image();
        imageCount++;
        return imageCount - 1;
    }

    public int push(int im, long w, int n) {
        Image image = imageOf(im);
        if (image == null) {
            return NONE;
        }
        if (image.layerCount > 0) {
            return STATE;
        }
        if (n < 1 || n > WIDTH_MOST) {
            return RANGE;
        }
        if (image.length + n > BYTES_MOST) {
            return FULL;
        }
        image.append(w, n);
        return image.length;
    }

    public int at(int im, int place) {
        Image image = imageOf(im);
        return image == null ? NONE : image.has(place);
    }

    public int length(int im) {
        Image image = imageOf(im);
        return image == null ? NONE : image.length;
    }

    public int layer(int im) {
        Image image = imageOf(im);
        if (image == null) {
            return NONE;
        }
        if (image.layerCount >= LAYERS_MOST) {
            return FULL;
        }
        image.addLayer();
        return image.layerCount;
    }

    public int commit(int im) {
        Image image = imageOf(im);
        if (image == null) {
            return NONE;
        }
        return image.layerCount == 0 ? STATE : image.sinkTop();
    }

    public int drop(int im) {
        Image image = imageOf(im);
        if (image == null) {
            return NONE;
        }
        return image.layerCount == 0 ? STATE : image.shedTop();
    }

    public int poke(int im, int place, int b) {
        Image image = imageOf(im);
        if (image == null || image.has(place) == NONE) {
            return NONE;
        }
        if (b < 0 || b > BYTE_MOST) {
            return RANGE;
        }
        int had = image.has(place);
        image.write(place, 1, b, false);
        return had;
    }

    public int undo(int im) {
        Image image = imageOf(im);
        if (image == null) {
            return NONE;
        }
        return image.layerCount == 0 ? STATE : image.takeBack();
    }

    public int changed(int im, int k) {
        Image image = imageOf(im);
        Layer top = image == null ? null : image.top();
        return top == null ? NONE : top.placeOf(k);
    }

    // ---- descriptions

    public int feed(long w, int n) {
        if (n < 1 || n > WIDTH_MOST) {
            return RANGE;
        }
        if (tape.count + n > TAPE_MOST) {
            return FULL;
        }
        tape.append(w, n);
        return tape.count;
    }

    public int cut(int n) {
        if (n < 0 || n > tape.count) {
            return RANGE;
        }
        tape.count = n;
        return n;
    }

    public int describe() {
        tape.split();
        boolean read = parser.readDescription(tape, spareDescription);
        lastFault = parser.fault;
        if (!read) {
            return FAULT_BASE - parser.faultPlace;
        }
        Description before = description;
        description = spareDescription;
        spareDescription = before;
        treeCount = 0;
        return description.structureCount;
    }

    public int wrong() {
        return lastFault;
    }

    public int size(int structure) {
        if (!isStructure(structure)) {
            return NONE;
        }
        int size = description.structures[structure].size;
        return size == NONE ? RANGE : size;
    }

    public int uses(int structure, int other) {
        if (!isStructure(structure) || !isStructure(other)) {
            return NONE;
        }
        return description.structures[structure].used >> other & 1;
    }

    // ---- trees

    public int lay(int im, int structure, int place) {
        Image image = imageOf(im);
        if (image == null || !isStructure(structure)) {
            return NONE;
        }
        if (place < 0 || place > image.length) {
            return RANGE;
        }
        if (treeCount >= TREES_MOST) {
            return FULL;
        }
        spareTree.layAll(image, structure, place, description, reckoner);
        if (spareTree.many) {
            return MANY;
        }
        Tree laid = spareTree;
        spareTree = trees[treeCount] == null ? new Tree() : trees[treeCount];
        trees[treeCount] = laid;
        treeCount++;
        return treeCount - 1;
    }

    public int relay(int tree) {
        Tree before = treeOf(tree);
        if (before == null) {
            return NONE;
        }
        spareTree.layAll(before.image, before.structure, before.place, description, reckoner);
        if (spareTree.many) {
            return MANY;
        }
        trees[tree] = spareTree;
        spareTree = before;
        return trees[tree].count;
    }

    public int clear() {
        int gone = treeCount;
        treeCount = 0;
        return gone;
    }

    public int node(int tree, int n, int what) {
        Node node = nodeOf(tree, n);
        if (node == null) {
            return NONE;
        }
        switch (what) {
            case 0:
                return node.kind;
            case 1:
                return node.from;
            case 2:
                return node.to;
            case 3:
                return node.parent == null ? NONE : node.parent.number;
            case 4:
                return node.kids;
            case 5:
                return node.fault;
            case 6:
                return node.met ? 1 : 0;
            case 7:
                return node.kind == STRUCT ? node.structure : NONE;
            default:
                return NONE;
        }
    }

    public int kid(int tree, int n, int k) {
        Node node = nodeOf(tree, n);
        Node found = node == null ? null : node.kidAt(k);
        return found == null ? NONE : found.number;
    }

    public long value(int tree, int n) {
        Tree whole = treeOf(tree);
        Node node = nodeOf(tree, n);
        return whole == null || node == null ? 0 : node.reading(whole.image);
    }

    public int sign(int tree, int n, int i) {
        Tree whole = treeOf(tree);
        Node node = nodeOf(tree, n);
        if (whole == null || node == null || !node.hasSign(i)) {
            return NONE;
        }
        return whole.image.has(node.from + i);
    }

    public int letter(int tree, int n, int which, int i) {
        Tree whole = treeOf(tree);
        Node node = nodeOf(tree, n);
        if (whole == null || node == null) {
            return NONE;
        }
        if (which == 0) {
            return letterOf(node.name, i);
        }
        if (which != 1 || node.kind != WHOLE || node.field == null || node.field.pairs == NONE) {
            return NONE;
        }
        int pair = description.pairWith(node.field.pairs, node.reading(whole.image));
        return pair == NONE ? NONE : letterOf(description.entryNames[pair], i);
    }

    public int faults(int tree, int what) {
        Tree whole = treeOf(tree);
        if (whole == null) {
            return NONE;
        }
        switch (what) {
            case 0:
                return whole.faultCount();
            case 1:
                return whole.firstFault();
            case 2:
                return whole.count;
            default:
                return NONE;
        }
    }

    public int find(int tree) {
        Node here = nodeOf(tree, 0);
        if (here == null) {
            return NONE;
        }
        tape.split();
        for (int token = 0; token < tape.tokenCount && tape.kinds[token] != END; token++) {
            Node next = kidByToken(here, token);
            if (next == null) {
                return FAULT_BASE - token;
            }
            here = next;
        }
        return here.number;
    }

    public int evaluate(int tree, int n) {
        Tree whole = treeOf(tree);
        Node node = nodeOf(tree, n);
        if (whole == null || node == null) {
            return NONE;
        }
        if (node.kind != STRUCT) {
            return KIND;
        }
        tape.split();
        boolean read = parser.readQuestion(tape, description, node.structure, question);
        lastFault = parser.fault;
        if (!read) {
            return FAULT_BASE - parser.faultPlace;
        }
        long result = reckoner.work(question, 0, node, node.to, whole.image);
        if (reckoner.failed) {
            return RANGE;
        }
        lastOut = result;
        return 0;
    }

    public long out() {
        return lastOut;
    }

    // ---- edits

    public int set(int tree, int n, long v) {
        Tree whole = treeOf(tree);
        Node node = nodeOf(tree, n);
        if (whole == null || node == null) {
            return NONE;
        }
        if (!node.hasNumber() || node.field == null) {
            return KIND;
        }
        if (node.fault == BEYOND) {
            return OUTSIDE;
        }
        if (!node.canHave(v)) {
            return RANGE;
        }
        Image image = whole.image;
        Field field = node.field;
        long bytes = node.kind == PART ? node.withPart(image.read(node.from, field.width, field.big), v) : v;
        image.write(node.from, field.width, bytes, field.big);
        return 0;
    }

    public int put(int tree, int n, int i, int b) {
        Tree whole = treeOf(tree);
        Node node = nodeOf(tree, n);
        if (whole == null || node == null) {
            return NONE;
        }
        if (node.kind != TEXT || node.field == null) {
            return KIND;
        }
        if (node.fault == BEYOND) {
            return OUTSIDE;
        }
        boolean isEnd = node.field.first == NONE && b == node.field.number;
        if (!node.hasSign(i) || b < 0 || b > BYTE_MOST || isEnd) {
            return RANGE;
        }
        whole.image.write(node.from + i, 1, b, false);
        return 0;
    }

    public int fix(int tree, int n) {
        Tree whole = treeOf(tree);
        Node node = nodeOf(tree, n);
        if (whole == null || node == null) {
            return NONE;
        }
        if (node.kind != SUM) {
            return KIND;
        }
        if (node.fault == BEYOND) {
            return OUTSIDE;
        }
        return whole.makeDue(node) ? 0 : RANGE;
    }

    // ---- looks

    public int search(int im, long v, int width, boolean big, int k) {
        Image image = imageOf(im);
        if (image == null || width < 1 || width > WIDTH_MOST) {
            return NONE;
        }
        for (int i = 0; i < width; i++) {
            pattern[i] = byteOf(v, big ? width - 1 - i : i);
            mask[i] = BYTE_MOST;
        }
        return matchOf(image, width, k);
    }

    public int masked(int im, int k) {
        Image image = imageOf(im);
        int half = tape.count / 2;
        if (image == null || half == 0 || half * 2 != tape.count) {
            return NONE;
        }
        for (int i = 0; i < half; i++) {
            pattern[i] = tape.bytes[i];
            mask[i] = tape.bytes[half + i];
        }
        return matchOf(image, half, k);
    }

    public int magic(int im, int structure, int k) {
        Image image = imageOf(im);
        if (image == null || !isStructure(structure) || description.structures[structure].fieldCount == 0) {
            return NONE;
        }
        Field first = description.structures[structure].fields[0];
        if (first.kind != MAGIC || first.condition != NONE) {
            return NONE;
        }
        for (int i = 0; i < first.entryCount; i++) {
            long due = description.entryNumbers[first.entryStart + i];
            pattern[i] = (int) due;
            mask[i] = due == NONE ? 0 : BYTE_MOST;
        }
        return matchOf(image, first.entryCount, k);
    }

    public int covered(int tree, int place) {
        Tree whole = treeOf(tree);
        return whole == null ? NONE : whole.deepestOver(place);
    }

    public int gap(int tree, int k, int what) {
        Tree whole = treeOf(tree);
        if (whole == null) {
            return NONE;
        }
        whole.markGaps(marks);
        return stretchOf(whole.image.length, k, what);
    }

    public int differ(int im, int other, int k, int what) {
        Image image = imageOf(im);
        Image second = imageOf(other);
        if (image == null || second == null) {
            return NONE;
        }
        int length = Math.max(image.length, second.length);
        for (int place = 0; place < length; place++) {
            marks[place] = image.has(place) == second.has(place) ? 0 : 1;
        }
        return stretchOf(length, k, what);
    }

    public int hex(int im, int row, int i) {
        Image image = imageOf(im);
        if (image == null || row < 0 || row >= BYTES_MOST / 16 || 16 * row >= image.length) {
            return NONE;
        }
        int there = Math.min(16, image.length - 16 * row);
        if (i < 4) {
            return i < 0 ? NONE : figureOf(16 * row >> 12 - 4 * i);
        }
        if (i < 53) {
            return i == 4 ? ':' : cellByte(image, 16 * row, i - 5);
        }
        if (i < 55) {
            return i == 53 ? ' ' : '|';
        }
        if (i - 55 < there) {
            int b = image.has(16 * row + i - 55);
            return b >= 32 && b <= 126 ? b : '.';
        }
        return i - 55 == there ? '|' : NONE;
    }

    public int count(int what) {
        switch (what) {
            case 0:
                return imageCount;
            case 1:
                return tape.count;
            case 2:
                return description.structureCount;
            case 3:
                return description.enumCount;
            case 4:
                return treeCount;
            case 5:
                return nodeTotal();
            case 6:
                return layerTotal();
            case 7:
                return writeTotal();
            default:
                return NONE;
        }
    }

    // ---- what the calls share

    private Image imageOf(int im) {
        return im < 0 || im >= imageCount ? null : images[im];
    }

    private boolean isStructure(int structure) {
        return structure >= 0 && structure < description.structureCount;
    }

    private Tree treeOf(int tree) {
        return tree < 0 || tree >= treeCount ? null : trees[tree];
    }

    private Node nodeOf(int tree, int n) {
        Tree whole = treeOf(tree);
        return whole == null || n < 0 || n >= whole.count ? null : whole.nodes[n];
    }

    private Node kidByToken(Node parent, int token) {
        int kind = tape.kinds[token];
        if (kind == NAME) {
            return parent.kidNamed(tape.values[token]);
        }
        if (kind == NUMBER && tape.values[token] < NODES_MOST) {
            return parent.kidAt((int) tape.values[token]);
        }
        return null;
    }

    private int matchOf(Image image, int n, int k) {
        int before = k;
        for (int place = 0; k >= 0 && place + n <= image.length; place++) {
            if (matches(image, place, n)) {
                if (before == 0) {
                    return place;
                }
                before--;
            }
        }
        return NONE;
    }

    private boolean matches(Image image, int place, int n) {
        for (int i = 0; i < n; i++) {
            if (((image.has(place + i) ^ pattern[i]) & mask[i]) != 0) {
                return false;
            }
        }
        return true;
    }

    /** The k-th stretch of PLACES that are marked. */
    private int stretchOf(int length, int k, int what) {
        int before = k;
        int begin = NONE;
        for (int place = 0; place <= length && k >= 0 && (what == 0 || what == 1); place++) {
            boolean marked = place < length && marks[place] != 0;
            if (marked && begin == NONE) {
                begin = place;
            }
            if (!marked && begin != NONE) {
                if (before == 0) {
                    return what == 0 ? begin : place;
                }
                before--;
                begin = NONE;
            }
        }
        return NONE;
    }

    private static int figureOf(int n) {
        int low = n & 15;
        return low < 10 ? '0' + low : 'a' + low - 10;
    }

    /** Three bytes of a hex line stand for each BYTE, a blank first. */
    private static int cellByte(Image image, int first, int i) {
        int b = image.has(first + i / 3);
        if (b == NONE || i % 3 == 0) {
            return ' ';
        }
        return figureOf(i % 3 == 1 ? b >> 4 : b);
    }

    private int nodeTotal() {
        int total = 0;
        for (int t = 0; t < treeCount; t++) {
            total += trees[t].count;
        }
        return total;
    }

    private int layerTotal() {
        int total = 0;
        for (int im = 0; im < imageCount; im++) {
            total += images[im].layerCount;
        }
        return total;
    }

    private int writeTotal() {
        int total = 0;
        for (int im = 0; im < imageCount; im++) {
            for (int l = 0; l < images[im].layerCount; l++) {
                total += images[im].layers[l].kept;
            }
        }
        return total;
    }

    /** Byte i of a long, the lowest one is byte 0. */
    private static int byteOf(long w, int i) {
        return (int) (w >>> 8 * i) & BYTE_MOST;
    }

    /** A NAME is a long with its first letter lowest; a byte 0 is behind its end. */
    private static int letterOf(long name, int i) {
        int letter = i < 0 || i >= WIDTH_MOST ? 0 : byteOf(name, i);
        return letter == 0 ? NONE : letter;
    }

    private static long lowBits(int bits) {
        return bits >= 64 ? -1L : (1L << bits) - 1;
    }

    /** A row of BYTES with its LAYERS. What it HAS is kept beside them in 'now', so that a look is one step. */
    private static final class Image {
        final int[] own = new int[BYTES_MOST];
        final int[] now = new int[BYTES_MOST];
        final Layer[] layers = new Layer[LAYERS_MOST];
        int layerCount;
        int length;

        int has(int place) {
            return place < 0 || place >= length ? NONE : now[place];
        }

        Layer top() {
            return layerCount == 0 ? null : layers[layerCount - 1];
        }

        void append(long w, int n) {
            for (int i = n - 1; i >= 0 && length < BYTES_MOST; i--) {
                own[length] = byteOf(w, i);
                now[length] = own[length];
                length++;
            }
        }

        void addLayer() {
            if (layerCount >= LAYERS_MOST) {
                return;
            }
            if (layers[layerCount] == null) {
                layers[layerCount] = new Layer();
            }
            layers[layerCount].wipe();
            layerCount++;
        }

        int sinkTop() {
            Layer gone = top();
            if (gone == null) {
                return 0;
            }
            layerCount--;
            Layer beneath = top();
            for (int place = 0; place < length; place++) {
                int b = gone.bytes[place];
                if (b != NONE && beneath == null) {
                    own[place] = b;
                } else if (b != NONE) {
                    beneath.give(place, b);
                }
            }
            return gone.byteCount;
        }

        int shedTop() {
            Layer gone = top();
            if (gone == null) {
                return 0;
            }
            layerCount--;
            for (int place = 0; place < length; place++) {
                if (gone.bytes[place] != NONE) {
                    refresh(place);
                }
            }
            return gone.byteCount;
        }

        int takeBack() {
            Layer top = top();
            if (top == null || top.kept == 0) {
                return 0;
            }
            top.kept--;
            int from = top.keptFrom[top.kept];
            int width = top.keptWidth[top.kept];
            for (int i = 0; i < width; i++) {
                top.give(from + i, top.keptBytes[top.kept * WIDTH_MOST + i]);
                refresh(from + i);
            }
            return width;
        }

        /** One WRITE of the lowest BYTES of a long. */
        void write(int from, int width, long w, boolean big) {
            if (from < 0 || width > WIDTH_MOST || from + width > length) {
                return;
            }
            Layer top = top();
            if (top != null) {
                top.keep(from, width);
            }
            for (int i = 0; i < width; i++) {
                int b = byteOf(w, big ? width - 1 - i : i);
                if (top == null) {
                    own[from + i] = b;
                } else {
                    top.give(from + i, b);
                }
                now[from + i] = b;
            }
        }

        /** BYTES as a number without sign. */
        long read(int from, int width, boolean big) {
            if (from < 0 || from + width > length) {
                return 0;
            }
            long w = 0;
            for (int i = 0; i < width; i++) {
                w = w << 8 | now[big ? from + i : from + width - 1 - i];
            }
            return w;
        }

        private void refresh(int place) {
            int b = own[place];
            for (int l = 0; l < layerCount; l++) {
                if (layers[l].bytes[place] != NONE) {
                    b = layers[l].bytes[place];
                }
            }
            now[place] = b;
        }
    }

    /** BYTES for some PLACES (NONE for the others), and what the latest WRITES found there. */
    private static final class Layer {
        final int[] bytes = new int[BYTES_MOST];
        int byteCount;
        final int[] keptFrom = new int[WRITES_MOST];
        final int[] keptWidth = new int[WRITES_MOST];
        final int[] keptBytes = new int[WRITES_MOST * WIDTH_MOST];
        int kept;

        void wipe() {
            Arrays.fill(bytes, NONE);
            byteCount = 0;
            kept = 0;
        }

        void give(int place, int b) {
            if (bytes[place] != NONE) {
                byteCount--;
            }
            if (b != NONE) {
                byteCount++;
            }
            bytes[place] = b;
        }

        void keep(int from, int width) {
            if (kept == WRITES_MOST) {
                forgetOldest();
            }
            keptFrom[kept] = from;
            keptWidth[kept] = width;
            for (int i = 0; i < width; i++) {
                keptBytes[kept * WIDTH_MOST + i] = bytes[from + i];
            }
            kept++;
        }

        int placeOf(int k) {
            int before = k;
            for (int place = 0; place < BYTES_MOST && k >= 0 && k < byteCount; place++) {
                if (bytes[place] != NONE) {
                    if (before == 0) {
                        return place;
                    }
                    before--;
                }
            }
            return NONE;
        }

        private void forgetOldest() {
            System.arraycopy(keptFrom, 1, keptFrom, 0, WRITES_MOST - 1);
            System.arraycopy(keptWidth, 1, keptWidth, 0, WRITES_MOST - 1);
            System.arraycopy(keptBytes, WIDTH_MOST, keptBytes, 0, (WRITES_MOST - 1) * WIDTH_MOST);
            kept--;
        }
    }

    /** THE TAPE, and the TOKENS of the text that was read from it last. */
    private static final class Tape {
        final int[] bytes = new int[TAPE_MOST];
        int count;
        final int[] kinds = new int[TAPE_MOST + 1];
        final int[] places = new int[TAPE_MOST + 1];
        /** Of a NUMBER itself, of a NAME its letters, of a WHOLE its width and 16: with sign, 32: highest first. */
        final long[] values = new long[TAPE_MOST + 1];
        int tokenCount;
        private final long[] keywords = new long[KEYWORD_COUNT];

        Tape() {
            int word = 0;
            int letters = 0;
            for (int i = 0; i < KEYWORDS.length() && word < KEYWORD_COUNT; i++) {
                if (KEYWORDS.charAt(i) == ' ') {
                    word++;
                    letters = 0;
                } else {
                    keywords[word] |= (long) KEYWORDS.charAt(i) << 8 * letters;
                    letters++;
                }
            }
        }

        void append(long w, int n) {
            for (int i = n - 1; i >= 0 && count < TAPE_MOST; i--) {
                bytes[count] = byteOf(w, i);
                count++;
            }
        }

        /** Cuts the text into TOKENS, END behind them, and empties THE TAPE. */
        void split() {
            tokenCount = 0;
            int next = 0;
            for (int place = 0; place < count; place = Math.max(place + 1, next)) {
                next = place + 1;
                if (isSmall(bytes[place])) {
                    next = rowEnd(place);
                    addWord(place, next);
                } else if (isDigit(bytes[place])) {
                    next = rowEnd(place);
                    long number = numberIn(place, next);
                    addToken(number == NONE ? BAD : NUMBER, place, number);
                } else if (bytes[place] != 32 && bytes[place] != 10) {
                    addToken(SIGNS.indexOf((char) bytes[place]) < 0 ? BAD : bytes[place], place, 0);
                }
            }
            addToken(END, count, 0);
            count = 0;
        }

        private void addToken(int kind, int place, long value) {
            if (tokenCount <= TAPE_MOST) {
                kinds[tokenCount] = kind;
                places[tokenCount] = place;
                values[tokenCount] = value;
                tokenCount++;
            }
        }

        private int rowEnd(int from) {
            int end = from;
            while (end < count && (isSmall(bytes[end]) || isDigit(bytes[end]))) {
                end++;
            }
            return end;
        }

        private void addWord(int from, int end) {
            if (end - from > WIDTH_MOST) {
                addToken(BAD, from, 0);
                return;
            }
            long word = 0;
            for (int i = from; i < end; i++) {
                word |= (long) bytes[i] << 8 * (i - from);
            }
            int type = typeIn(from, end);
            if (type != NONE) {
                addToken(TYPE, from, type);
            } else {
                addToken(keywordOf(word), from, word);
            }
        }

        private int keywordOf(long word) {
            for (int i = 0; i < KEYWORD_COUNT; i++) {
                if (keywords[i] == word) {
                    return KEY_ENUM + i;
                }
            }
            return NAME;
        }

        private int typeIn(int from, int end) {
            int first = bytes[from];
            boolean big = end - from == 3 && bytes[end - 1] == 'b';
            if (first != 'u' && first != 's' || end - from != 2 && !big) {
                return NONE;
            }
            int width = bytes[from + 1] - '0';
            if (width < 1 || width > WIDTH_MOST) {
                return NONE;
            }
            return width | (first == 's' ? 16 : 0) | (big ? 32 : 0);
        }

        private long numberIn(int from, int end) {
            boolean hex = end - from > 2 && bytes[from] == '0' && bytes[from + 1] == 'x';
            int first = hex ? from + 2 : from;
            int base = hex ? 16 : 10;
            if (end - first > (hex ? 8 : 9)) {
                return NONE;
            }
            long number = 0;
            for (int i = first; i < end; i++) {
                int digit = isDigit(bytes[i]) ? bytes[i] - '0' : bytes[i] - 'a' + 10;
                if (digit >= base) {
                    return NONE;
                }
                number = number * base + digit;
            }
            return number;
        }

        private static boolean isSmall(int b) {
            return b >= 'a' && b <= 'z';
        }

        private static boolean isDigit(int b) {
            return b >= '0' && b <= '9';
        }
    }

    /** Expressions as rows of steps, operands ahead of what works on them, each with END behind it. */
    private static final class Code {
        // a step stands for a byte of the text at least, an END for the sign behind an expr or the text's end
        final int[] steps = new int[TAPE_MOST + 2];
        final long[] operands = new long[TAPE_MOST + 2];
        int count;

        void add(int step, long operand) {
            if (count <= TAPE_MOST) {
                steps[count] = step;
                operands[count] = operand;
                count++;
            }
        }

        int stepAt(int i) {
            return i < 0 || i >= count ? END : steps[i];
        }

        /** The NUMBER that an expr is alone, if it is none above the bound. */
        long alone(int start, int most) {
            boolean alone = stepAt(start) == NUMBER && stepAt(start + 1) == END;
            return alone && operands[start] <= most ? operands[start] : NONE;
        }
    }

    /** A field as it is told; what its KIND does not want stays as 'forget' leaves it. */
    private static final class Field {
        final int index;
        int kind;
        long name;
        int width;
        boolean signed;
        boolean big;
        /** The structure of a STRUCT, an ARRAY of STRUCTS, a POINTER. */
        int structure;
        /** The enum behind 'is'. */
        int pairs;
        /** Where in the Code the expressions begin: of 'if', and those of the core in their order. */
        int condition;
        int first;
        int second;
        /** The NUMBER behind 'until', 'pad', 'times'; the kind of a sum. */
        long number;
        /** The structure behind 'else'. */
        int otherwise;
        /** The parts, cases or bytes among the Description's entries. */
        int entryStart;
        int entryCount;
        /** The NAME behind 'to', which may be told later, and its PLACE. */
        long aimName;
        int aimPlace;

        Field(int index) {
            this.index = index;
        }

        void forget() {
            kind = NONE;
            name = 0;
            width = 0;
            signed = false;
            big = false;
            structure = NONE;
            pairs = NONE;
            condition = NONE;
            first = NONE;
            second = NONE;
            number = 0;
            otherwise = NONE;
            entryStart = 0;
            entryCount = 0;
            aimName = 0;
            aimPlace = 0;
        }

        void setType(long type) {
            width = (int) type & 15;
            signed = (type & 16) != 0;
            big = (type & 32) != 0;
        }

        /** How many BYTES a pad has at a distance from where its structure begins. */
        long padding(long distance) {
            return number < 1 ? 0 : Math.floorMod(-distance, number);
        }
    }

    private static final class Structure {
        long name;
        final Field[] fields = new Field[FIELDS_MOST];
        int fieldCount;
        /** NONE: it has no SIZE. */
        int size;
        /** A bit for each structure that it uses. */
        int used;

        Structure() {
            for (int f = 0; f < FIELDS_MOST; f++) {
                fields[f] = new Field(f);
            }
        }
    }

    /** The structures and enums of a text; pairs, parts, cases and bytes are entries of common rows. */
    private static final class Description {
        final Structure[] structures = new Structure[STRUCTURES_MOST];
        int structureCount;
        final long[] enumNames = new long[ENUMS_MOST];
        final int[] pairStart = new int[ENUMS_MOST];
        final int[] pairCount = new int[ENUMS_MOST];
        int enumCount;
        // an entry stands for a byte of the text at least
        final long[] entryNames = new long[TAPE_MOST];
        final long[] entryNumbers = new long[TAPE_MOST];
        /** Of a case its structure, of a part its lowest bit. */
        final int[] entryTargets = new int[TAPE_MOST];
        int entryCount;
        final Code code = new Code();

        Description() {
            for (int s = 0; s < STRUCTURES_MOST; s++) {
                structures[s] = new Structure();
            }
        }

        void forget() {
            structureCount = 0;
            enumCount = 0;
            entryCount = 0;
            code.count = 0;
        }

        void addEntry(long name, long number, int target) {
            if (entryCount < TAPE_MOST) {
                entryNames[entryCount] = name;
                entryNumbers[entryCount] = number;
                entryTargets[entryCount] = target;
                entryCount++;
            }
        }

        int structureNamed(long name) {
            for (int s = 0; s < structureCount; s++) {
                if (structures[s].name == name) {
                    return s;
                }
            }
            return NONE;
        }

        int enumNamed(long name) {
            for (int e = 0; e < enumCount; e++) {
                if (enumNames[e] == name) {
                    return e;
                }
            }
            return NONE;
        }

        int entryNamed(int start, int count, long name) {
            for (int i = start; i < start + count && i < entryCount; i++) {
                if (entryNames[i] == name) {
                    return i;
                }
            }
            return NONE;
        }

        int pairWith(int pairs, long value) {
            return pairs < 0 || pairs >= enumCount ? NONE : entryWith(pairStart[pairs], pairCount[pairs], value);
        }

        int entryWith(int start, int count, long number) {
            for (int i = start; i < start + count && i < entryCount; i++) {
                if (entryNumbers[i] == number) {
                    return i;
                }
            }
            return NONE;
        }

        int sizeOf(int structure) {
            return structure < 0 || structure >= structureCount ? NONE : structures[structure].size;
        }

        /** The SIZE of a structure whose fields are all told. */
        int measure(Structure structure) {
            long total = 0;
            for (int f = 0; f < structure.fieldCount; f++) {
                long bytes = fieldSize(structure.fields[f], total);
                if (bytes < 0) {
                    return NONE;
                }
                total += bytes;
            }
            return total > SIZE_MOST ? NONE : (int) total;
        }

        private long fieldSize(Field field, long before) {
            if (field.condition != NONE) {
                return NONE;
            }
            switch (field.kind) {
                case STRUCT:
                    return sizeOf(field.structure);
                case ARRAY:
                    return arraySize(field);
                case TEXT:
                    return code.alone(field.first, TEXT_MOST);
                case UNION:
                    return unionSize(field);
                case PAD:
                    return field.padding(before);
                case MAGIC:
                    return field.entryCount;
                default:
                    return field.width;
            }
        }

        private long arraySize(Field field) {
            long kids = code.alone(field.first, ARRAY_MOST);
            int each = field.structure == NONE ? field.width : sizeOf(field.structure);
            return kids == NONE || each == NONE ? NONE : kids * each;
        }

        private int unionSize(Field field) {
            int size = sizeOf(field.otherwise);
            for (int i = field.entryStart; i < field.entryStart + field.entryCount; i++) {
                if (sizeOf(entryTargets[i]) != size) {
                    return NONE;
                }
            }
            return size;
        }

        /** Which structures each one uses, by itself first, then by way of those. */
        void gatherUses() {
            for (int s = 0; s < structureCount; s++) {
                Structure structure = structures[s];
                structure.used = 0;
                for (int f = 0; f < structure.fieldCount; f++) {
                    structure.used |= usedBy(structure.fields[f]);
                }
            }
            for (int way = 0; way < structureCount; way++) {
                for (int s = 0; s < structureCount; s++) {
                    if ((structures[s].used >> way & 1) != 0) {
                        structures[s].used |= structures[way].used;
                    }
                }
            }
        }

        private int usedBy(Field field) {
            int used = field.structure == NONE ? 0 : 1 << field.structure;
            if (field.kind == UNION) {
                used |= field.otherwise == NONE ? 0 : 1 << field.otherwise;
                for (int i = field.entryStart; i < field.entryStart + field.entryCount; i++) {
                    used |= 1 << entryTargets[i];
                }
            }
            return used;
        }
    }

    /** Reads the TOKENS of a text. Each step answers whether the text may go on; if not, the FAULT is noted. */
    private static final class Parser {
        int fault;
        int faultPlace;
        private Tape tape;
        private int position;
        /** The kind and value of the TOKEN that is come to. */
        private int kind;
        private long value;
        private Description description;
        private Code code;
        private Structure structure;
        private Field field;
        private long number;

        boolean readDescription(Tape text, Description target) {
            start(text, target, target.code);
            target.forget();
            for (int items = 0; items <= TAPE_MOST && (items == 0 || kind != END); items++) {
                if (!check(kind == KEY_ENUM || kind == KEY_STRUCT, MISPLACED)) {
                    return false;
                }
                if (kind == KEY_ENUM ? !readEnum() : !readStructure()) {
                    return false;
                }
            }
            if (!findAims()) {
                return false;
            }
            target.gatherUses();
            return true;
        }

        boolean readQuestion(Tape text, Description told, int struct, Code target) {
            start(text, told, target);
            target.count = 0;
            structure = told.structures[struct];
            return readExpression() != NONE && check(kind == END, MISPLACED);
        }

        private void start(Tape text, Description target, Code steps) {
            tape = text;
            description = target;
            code = steps;
            fault = 0;
            faultPlace = 0;
            position = 0;
            kind = text.kinds[0];
            value = text.values[0];
        }

        /** Notes the FAULT of a TOKEN that is not fine; what is no TOKEN has the least one, whatever was wanted. */
        private boolean check(boolean fine, int otherwise) {
            if (!fine) {
                fault = kind == BAD ? NO_TOKEN : otherwise;
                faultPlace = tape.places[position];
            }
            return fine;
        }

        /** The END is never passed, so that the position is always one of the text. */
        private void pass() {
            if (position < tape.tokenCount - 1) {
                position++;
                kind = tape.kinds[position];
                value = tape.values[position];
            }
        }

        private boolean take(int wanted) {
            if (!check(kind == wanted, MISPLACED)) {
                return false;
            }
            pass();
            return true;
        }

        private boolean takeIf(int wanted) {
            boolean is = kind == wanted;
            if (is) {
                pass();
            }
            return is;
        }

        private boolean takeNumber(long least, long most) {
            number = value;
            if (!check(kind == NUMBER, MISPLACED) || !check(number >= least && number <= most, TOO_MUCH)) {
                return false;
            }
            pass();
            return true;
        }

        private boolean takeSigned() {
            boolean minus = kind == '-';
            if (minus) {
                pass();
            }
            number = minus ? -value : value;
            if (!check(kind == NUMBER, MISPLACED)) {
                return false;
            }
            pass();
            return true;
        }

        private boolean takeType() {
            field.setType(value);
            return take(TYPE);
        }

        /** Answers the structure that ended before, NONE with the FAULT noted. */
        private int takeStructure() {
            int found = description.structureNamed(value);
            if (!check(kind == NAME, MISPLACED) || !check(found != NONE, NOT_TOLD)) {
                return NONE;
            }
            pass();
            return found;
        }

        /** Answers the enum that was told, NONE with the FAULT noted. */
        private int takeEnum() {
            int found = description.enumNamed(value);
            if (!check(kind == NAME, MISPLACED) || !check(found != NONE, NOT_TOLD)) {
                return NONE;
            }
            pass();
            return found;
        }

        private boolean isNewItem() {
            return check(kind == NAME, MISPLACED)
                    && check(description.enumNamed(value) == NONE, TOLD_ALREADY)
                    && check(description.structureNamed(value) == NONE, TOLD_ALREADY);
        }

        private boolean readEnum() {
            int e = description.enumCount;
            if (!check(e < ENUMS_MOST, TOO_MUCH)) {
                return false;
            }
            pass();
            if (!isNewItem()) {
                return false;
            }
            description.enumNames[e] = value;
            description.pairStart[e] = description.entryCount;
            description.pairCount[e] = 0;
            pass();
            if (!take('{')) {
                return false;
            }
            boolean more = true;
            for (int pair = 0; pair <= PAIRS_MOST && more; pair++) {
                if (!readPair(e)) {
                    return false;
                }
                more = takeIf(',');
            }
            description.enumCount++;
            return take('}');
        }

        private boolean readPair(int e) {
            long name = value;
            int same = description.entryNamed(description.pairStart[e], description.pairCount[e], name);
            if (!check(kind == NAME, MISPLACED) || !check(same == NONE, TOLD_ALREADY)
                    || !check(description.pairCount[e] < PAIRS_MOST, TOO_MUCH)) {
                return false;
            }
            pass();
            if (!take('=') || !takeSigned()) {
                return false;
            }
            description.addEntry(name, number, 0);
            description.pairCount[e]++;
            return true;
        }

        private boolean readStructure() {
            int s = description.structureCount;
            if (!check(s < STRUCTURES_MOST, TOO_MUCH)) {
                return false;
            }
            pass();
            if (!isNewItem()) {
                return false;
            }
            structure = description.structures[s];
            structure.name = value;
            structure.fieldCount = 0;
            pass();
            if (!take('{')) {
                return false;
            }
            for (int f = 0; f <= FIELDS_MOST && kind != '}'; f++) {
                if (!readField()) {
                    return false;
                }
            }
            structure.size = description.measure(structure);
            // counted only now: a structure is known to fields and cases when it has ended
            description.structureCount++;
            return take('}');
        }

        private boolean readField() {
            if (kind != KEY_IF && !startsCore() || !check(structure.fieldCount < FIELDS_MOST, TOO_MUCH)) {
                return false;
            }
            field = structure.fields[structure.fieldCount];
            field.forget();
            if (takeIf(KEY_IF)) {
                field.condition = readExpression();
                if (field.condition == NONE || !take(':') || !startsCore()) {
                    return false;
                }
            }
            boolean read;
            switch (kind) {
                case TYPE:
                    read = readWhole() && readTail();
                    break;
                case NAME:
                    read = readStruct() && readTail();
                    break;
                case KEY_BITS:
                    read = readBits();
                    break;
                case KEY_TEXT:
                    read = readText();
                    break;
                case KEY_UNION:
                    read = readUnion();
                    break;
                case KEY_TO:
                    read = readPointer();
                    break;
                case KEY_PAD:
                    read = readPad();
                    break;
                case KEY_MAGIC:
                    read = readMagic();
                    break;
                default:
                    read = readSum();
                    break;
            }
            if (!read || !take(';')) {
                return false;
            }
            structure.fieldCount++;
            return true;
        }

        private boolean startsCore() {
            switch (kind) {
                case TYPE:
                case KEY_BITS:
                case KEY_TEXT:
                case KEY_UNION:
                case KEY_TO:
                case KEY_PAD:
                case KEY_MAGIC:
                case KEY_SUM:
                    return true;
                case NAME:
                    return check(description.structureNamed(value) != NONE, NOT_TOLD);
                default:
                    return check(false, MISPLACED);
            }
        }

        private boolean takeOwnName() {
            if (!check(kind == NAME, MISPLACED) || !check(!isTold(value), TOLD_ALREADY)) {
                return false;
            }
            field.name = value;
            pass();
            return true;
        }

        /** Looks at the field that is being told, too. */
        private boolean isTold(long name) {
            for (int f = 0; f <= structure.fieldCount && f < FIELDS_MOST; f++) {
                Field told = structure.fields[f];
                boolean isPart = told.kind == BITS
                        && description.entryNamed(told.entryStart, told.entryCount, name) != NONE;
                if (told.name == name || isPart) {
                    return true;
                }
            }
            return false;
        }

        private boolean readWhole() {
            field.kind = WHOLE;
            return takeType() && takeOwnName();
        }

        private boolean readStruct() {
            field.kind = STRUCT;
            field.structure = takeStructure();
            return field.structure != NONE && takeOwnName();
        }

        /** What may stand behind the NAME of a WHOLE or a STRUCT. */
        private boolean readTail() {
            if (field.kind == WHOLE && takeIf(KEY_IS)) {
                field.pairs = takeEnum();
                return field.pairs != NONE;
            }
            if (!takeIf('[')) {
                return true;
            }
            field.kind = ARRAY;
            if (kind != ']') {
                field.first = readExpression();
                return field.first != NONE && take(']');
            }
            boolean sized = field.structure == NONE || description.sizeOf(field.structure) > 0;
            return check(sized, NO_SIZE) && take(']');
        }

        private boolean readBits() {
            field.kind = BITS;
            field.entryStart = description.entryCount;
            pass();
            if (!takeType() || !takeOwnName() || !take('{')) {
                return false;
            }
            int bit = 0;
            boolean more = true;
            for (int part = 0; part <= PARTS_MOST && more; part++) {
                if (!readPart(bit)) {
                    return false;
                }
                bit += (int) number;
                more = takeIf(',');
            }
            return take('}');
        }

        private boolean readPart(int bit) {
            long name = value;
            if (!check(kind == NAME, MISPLACED) || !check(!isTold(name), TOLD_ALREADY)
                    || !check(field.entryCount < PARTS_MOST, TOO_MUCH)) {
                return false;
            }
            pass();
            if (!take(':') || !takeNumber(1, Math.min(PART_MOST, 8 * field.width - bit))) {
                return false;
            }
            description.addEntry(name, number, bit);
            field.entryCount++;
            return true;
        }

        private boolean readText() {
            field.kind = TEXT;
            pass();
            if (!takeOwnName()) {
                return false;
            }
            if (takeIf('[')) {
                field.first = readExpression();
                return field.first != NONE && take(']');
            }
            if (!take(KEY_UNTIL) || !takeNumber(0, BYTE_MOST)) {
                return false;
            }
            field.number = number;
            return true;
        }

        private boolean readUnion() {
            field.kind = UNION;
            field.entryStart = description.entryCount;
            pass();
            if (!takeOwnName() || !take(KEY_BY)) {
                return false;
            }
            field.first = readExpression();
            if (field.first == NONE || !take('{')) {
                return false;
            }
            boolean more = true;
            for (int cases = 0; cases <= CASES_MOST && more; cases++) {
                if (!readCase()) {
                    return false;
                }
                more = kind == NUMBER || kind == '-';
            }
            if (takeIf(KEY_ELSE)) {
                field.otherwise = takeStructure();
                if (field.otherwise == NONE || !take(';')) {
                    return false;
                }
            }
            return take('}');
        }

        private boolean readCase() {
            if (!check(kind == NUMBER || kind == '-', MISPLACED) || !check(field.entryCount < CASES_MOST, TOO_MUCH)) {
                return false;
            }
            if (!takeSigned() || !take(':')) {
                return false;
            }
            int target = takeStructure();
            if (target == NONE || !take(';')) {
                return false;
            }
            description.addEntry(0, number, target);
            field.entryCount++;
            return true;
        }

        private boolean readPointer() {
            field.kind = POINTER;
            field.number = 1;
            pass();
            field.aimName = value;
            field.aimPlace = tape.places[position];
            if (!take(NAME) || !takeOwnName() || !take(KEY_BY) || !takeType()) {
                return false;
            }
            if (takeIf(KEY_FROM)) {
                field.first = readExpression();
                if (field.first == NONE) {
                    return false;
                }
            }
            if (takeIf(KEY_TIMES)) {
                field.number = value;
                return takeNumber(1, TIMES_MOST);
            }
            return true;
        }

        private boolean readPad() {
            field.kind = PAD;
            pass();
            field.number = value;
            return takeNumber(1, PAD_MOST);
        }

        private boolean readMagic() {
            field.kind = MAGIC;
            field.entryStart = description.entryCount;
            pass();
            if (!takeOwnName() || !take('=')) {
                return false;
            }
            boolean more = true;
            for (int bytes = 0; bytes <= MAGIC_MOST && more; bytes++) {
                if (!readByte()) {
                    return false;
                }
                more = kind == NUMBER || kind == '*';
            }
            return true;
        }

        /** A * is kept as NONE. */
        private boolean readByte() {
            if (!check(kind == NUMBER || kind == '*', MISPLACED) || !check(field.entryCount < MAGIC_MOST, TOO_MUCH)) {
                return false;
            }
            boolean any = takeIf('*');
            if (!any && !takeNumber(0, BYTE_MOST)) {
                return false;
            }
            description.addEntry(0, any ? NONE : number, 0);
            field.entryCount++;
            return true;
        }

        private boolean readSum() {
            field.kind = SUM;
            pass();
            field.number = kind;
            if (!check(kind >= KEY_ADD && kind <= KEY_ROLL, MISPLACED)) {
                return false;
            }
            pass();
            if (!takeType() || !takeOwnName() || !take(KEY_OF)) {
                return false;
            }
            field.first = readExpression();
            if (field.first == NONE || !take(',')) {
                return false;
            }
            field.second = readExpression();
            return field.second != NONE;
        }

        /** A pointer's structure may be told later, so its NAME is looked for behind all other FAULTS. */
        private boolean findAims() {
            for (int s = 0; s < description.structureCount; s++) {
                Structure told = description.structures[s];
                for (int f = 0; f < told.fieldCount; f++) {
                    if (told.fields[f].kind == POINTER && !findAim(told.fields[f])) {
                        return false;
                    }
                }
            }
            return true;
        }

        private boolean findAim(Field pointer) {
            pointer.structure = description.structureNamed(pointer.aimName);
            if (pointer.structure == NONE) {
                fault = NOT_TOLD;
                faultPlace = pointer.aimPlace;
            }
            return pointer.structure != NONE;
        }

        /** Answers where in the Code the expr begins, NONE with the FAULT noted. */
        private int readExpression() {
            int begin = code.count;
            if (!readLevel(0, 0)) {
                return NONE;
            }
            code.add(END, 0);
            return begin;
        }

        private boolean readLevel(int level, int nests) {
            if (level >= LEVEL_FACTOR) {
                return readFactor(nests);
            }
            if (!readLevel(level + 1, nests)) {
                return false;
            }
            int most = level == LEVEL_COMPARE ? 1 : TAPE_MOST;
            for (int i = 0; i < most && levelOf(kind) == level; i++) {
                int step = kind;
                pass();
                if (!readLevel(level + 1, nests)) {
                    return false;
                }
                code.add(step, 0);
            }
            return true;
        }

        private static int levelOf(int sign) {
            switch (sign) {
                case KEY_OR:
                    return 0;
                case KEY_AND:
                    return 1;
                case '=':
                case '<':
                case '>':
                    return LEVEL_COMPARE;
                case '+':
                case '-':
                    return 3;
                case '*':
                case '/':
                case '%':
                case '&':
                    return 4;
                default:
                    return NONE;
            }
        }

        private boolean readFactor(int nests) {
            int first = kind;
            boolean opens = first == '(' || first == '-' || first == KEY_NOT;
            boolean named = first == NAME;
            boolean plain = first == NUMBER || first == KEY_HERE || first == KEY_LEFT || first == KEY_BEGIN;
            long operand = named ? operandNamed(value) : value;
            if (!check(opens || named || plain, MISPLACED) || !check(!named || operand != NONE, NOT_TOLD)
                    || !check(!opens || nests < NESTS_MOST, TOO_MUCH)) {
                return false;
            }
            pass();
            if (!opens) {
                code.add(first, operand);
                return true;
            }
            if (first != '(') {
                boolean read = readFactor(nests + 1);
                code.add(first == '-' ? STEP_MINUS : first, 0);
                return read;
            }
            if (!readLevel(0, nests + 1) || !check(kind == ')', MISPLACED)) {
                return false;
            }
            pass();
            return true;
        }

        /**
         * A field's number times NAME_SPAN, and for a part its own from 1 on; NONE: not told as is wanted. The field
         * that is being told is not yet among those that count.
         */
        private int operandNamed(long name) {
            for (int f = 0; f < structure.fieldCount; f++) {
                Field told = structure.fields[f];
                boolean isNumber = told.kind == WHOLE || told.kind == SUM || told.kind == POINTER;
                if (isNumber && told.name == name) {
                    return f * NAME_SPAN;
                }
                for (int i = 0; told.kind == BITS && i < told.entryCount; i++) {
                    if (description.entryNames[told.entryStart + i] == name) {
                        return f * NAME_SPAN + 1 + i;
                    }
                }
            }
            return NONE;
        }
    }

    private static final class Node {
        final int number;
        int kind;
        int from;
        int to;
        int fault;
        boolean met;
        long name;
        Node parent;
        Node firstKid;
        Node lastKid;
        Node next;
        int kids;
        /** How many parents it is away from NODE 0. */
        int away;
        /** What it was made of; null: a STRUCT that is no field. */
        Field field;
        /** Of a STRUCT its structure. */
        int structure;
        /** Of a PART its lowest bit and how many it has. */
        int lowest;
        int bits;

        Node(int number) {
            this.number = number;
        }

        void begin(Node above, int newKind, int place, long newName, Field told) {
            kind = newKind;
            from = place;
            to = place;
            fault = 0;
            met = false;
            name = newName;
            parent = above;
            firstKid = null;
            lastKid = null;
            next = null;
            kids = 0;
            away = above == null ? 0 : above.away + 1;
            field = told;
            structure = NONE;
            lowest = 0;
            bits = 0;
        }

        void addKid(Node kid) {
            if (lastKid == null) {
                firstKid = kid;
            } else {
                lastKid.next = kid;
            }
            lastKid = kid;
            kids++;
        }

        Node kidAt(int k) {
            if (k < 0 || k >= kids) {
                return null;
            }
            Node kid = firstKid;
            for (int i = 0; i < k && kid != null; i++) {
                kid = kid.next;
            }
            return kid;
        }

        Node kidNamed(long wanted) {
            for (Node kid = firstKid; kid != null; kid = kid.next) {
                if (kid.name == wanted) {
                    return kid;
                }
            }
            return null;
        }

        /** The NODE of this STRUCT that a NAME in an expression stands for; null: it is not there. */
        Node kidMeant(int operand) {
            int part = operand % NAME_SPAN - 1;
            for (Node kid = firstKid; kid != null; kid = kid.next) {
                if (kid.field != null && kid.field.index == operand / NAME_SPAN) {
                    return part < 0 ? kid : kid.kidAt(part);
                }
            }
            return null;
        }

        boolean covers(int place) {
            return from <= place && place < to;
        }

        boolean holdsOthers() {
            return kind == STRUCT || kind == ARRAY || kind == UNION;
        }

        boolean hasNumber() {
            return kind == WHOLE || kind == BITS || kind == PART || kind == POINTER || kind == SUM;
        }

        /** Whether a TEXT has a BYTE i; the last one of 'until' is not of it. */
        boolean hasSign(int i) {
            return kind == TEXT && i >= 0 && i < signs();
        }

        private int signs() {
            boolean until = field != null && field.first == NONE;
            return fault == BEYOND ? 0 : to - from - (until ? 1 : 0);
        }

        /** The VALUE. */
        long reading(Image image) {
            if (fault == BEYOND) {
                return 0;
            }
            if (kind == ARRAY) {
                return kids;
            }
            if (kind == TEXT) {
                return signs();
            }
            if (!hasNumber() || field == null) {
                return 0;
            }
            long raw = image.read(from, field.width, field.big);
            if (kind == PART) {
                return raw >>> lowest & lowBits(bits);
            }
            int unused = 64 - 8 * field.width;
            return kind != BITS && field.signed ? raw << unused >> unused : raw;
        }

        boolean canHave(long v) {
            int wide = kind == PART ? bits : 8 * field.width;
            if (wide >= 64) {
                return true;
            }
            if (field.signed && kind != PART && kind != BITS) {
                long half = 1L << (wide - 1);
                return v >= -half && v < half;
            }
            return v >= 0 && v <= lowBits(wide);
        }

        /** The BYTES of the BITS with a PART made anew. */
        long withPart(long raw, long v) {
            return raw & ~(lowBits(bits) << lowest) | v << lowest;
        }
    }

    /** Works out expressions at a STRUCT. */
    private static final class Reckoner {
        boolean failed;
        // each nest keeps an operand a level at most, so this is more than any expr needs
        private final long[] stack = new long[(NESTS_MOST + 2) * (LEVEL_FACTOR + 1)];
        private int depth;

        long work(Code code, int start, Node struct, int here, Image image) {
            failed = start < 0;
            depth = 0;
            for (int i = start; !failed && i < code.count && code.steps[i] != END; i++) {
                int step = code.steps[i];
                switch (step) {
                    case NUMBER:
                        stackUp(code.operands[i]);
                        break;
                    case KEY_HERE:
                        stackUp(here);
                        break;
                    case KEY_LEFT:
                        stackUp(image.length - here);
                        break;
                    case KEY_BEGIN:
                        stackUp(struct.from);
                        break;
                    case NAME:
                        Node named = struct.kidMeant((int) code.operands[i]);
                        failed = named == null || named.fault == BEYOND;
                        stackUp(failed ? 0 : named.reading(image));
                        break;
                    case STEP_MINUS:
                    case KEY_NOT:
                        workOne(step);
                        break;
                    default:
                        workTwo(step);
                        break;
                }
            }
            failed |= depth != 1;
            return failed ? 0 : stack[0];
        }

        private void stackUp(long v) {
            if (depth >= stack.length) {
                failed = true;
                return;
            }
            stack[depth] = v;
            depth++;
        }

        private void workOne(int step) {
            if (depth < 1) {
                failed = true;
                return;
            }
            long v = stack[depth - 1];
            stack[depth - 1] = step == STEP_MINUS ? -v : v == 0 ? 1 : 0;
        }

        private void workTwo(int step) {
            if (depth < 2) {
                failed = true;
                return;
            }
            depth--;
            long a = stack[depth - 1];
            long b = stack[depth];
            if ((step == '/' || step == '%') && b == 0) {
                failed = true;
                return;
            }
            stack[depth - 1] = joined(step, a, b);
        }

        /** Who calls has seen that b is not 0 where it divides. */
        private static long joined(int step, long a, long b) {
            switch (step) {
                case KEY_OR:
                    return a != 0 || b != 0 ? 1 : 0;
                case KEY_AND:
                    return a != 0 && b != 0 ? 1 : 0;
                case '=':
                    return a == b ? 1 : 0;
                case '<':
                    return a < b ? 1 : 0;
                case '>':
                    return a > b ? 1 : 0;
                case '+':
                    return a + b;
                case '-':
                    return a - b;
                case '*':
                    return a * b;
                case '/':
                    return a / b;
                case '%':
                    return a % b;
                default:
                    return a & b;
            }
        }
    }

    /** A structure that is LAID over an IMAGE. */
    private static final class Tree {
        Image image;
        int structure;
        int place;
        final Node[] nodes = new Node[NODES_MOST];
        int count;
        /** More NODES were wanted than there may be; what was laid is of no use then. */
        boolean many;
        private Description description;
        private Reckoner reckoner;
        /** The PLACES of which a SUM's DUE is made. */
        private int sumFrom;
        private int sumTo;

        void layAll(Image over, int number, int from, Description told, Reckoner worker) {
            image = over;
            structure = number;
            place = from;
            description = told;
            reckoner = worker;
            count = 0;
            many = false;
            addStruct(null, number, from, 1);
        }

        int faultCount() {
            int faults = 0;
            for (int n = 0; n < count; n++) {
                faults += nodes[n].fault == 0 ? 0 : 1;
            }
            return faults;
        }

        int firstFault() {
            for (int n = 0; n < count; n++) {
                if (nodes[n].fault != 0) {
                    return n;
                }
            }
            return NONE;
        }

        int deepestOver(int wanted) {
            int found = NONE;
            for (int n = 0; n < count; n++) {
                if (nodes[n].covers(wanted) && (found == NONE || nodes[n].away > nodes[found].away)) {
                    found = n;
                }
            }
            return found;
        }

        /** Marks the PLACES that are in no NODE; the row is first used to tell where NODES begin and end. */
        void markGaps(int[] marks) {
            Arrays.fill(marks, 0);
            for (int n = 0; n < count; n++) {
                if (!nodes[n].holdsOthers()) {
                    marks[nodes[n].from]++;
                    marks[nodes[n].to]--;
                }
            }
            int open = 0;
            for (int p = 0; p < image.length; p++) {
                open += marks[p];
                marks[p] = open == 0 ? 1 : 0;
            }
        }

        /** Makes a SUM its DUE, if there is one. */
        boolean makeDue(Node sum) {
            if (sum.field == null || sum.parent == null || rangeFault(sum) != 0) {
                return false;
            }
            image.write(sum.from, sum.field.width, due(sum), sum.field.big);
            if (sum.fault == NOT_DUE) {
                sum.fault = 0;
            }
            return true;
        }

        /** Answers null, and notes it, when there is no room. */
        private Node addNode(Node parent, int kind, int from, long name, Field field) {
            if (count >= NODES_MOST) {
                many = true;
                return null;
            }
            if (nodes[count] == null) {
                nodes[count] = new Node(count);
            }
            Node node = nodes[count];
            count++;
            node.begin(parent, kind, from, name, field);
            if (parent != null) {
                parent.addKid(node);
            }
            return node;
        }

        /** A STRUCT that is no field; answers where it ends. */
        private int addStruct(Node parent, int number, int from, int depth) {
            Node node = addNode(parent, STRUCT, from, description.structures[number].name, null);
            if (node == null) {
                return from;
            }
            layStruct(node, number, depth);
            return node.to;
        }

        private void layStruct(Node node, int number, int depth) {
            node.structure = number;
            if (depth > STRUCTS_MOST) {
                node.fault = TOO_DEEP;
                return;
            }
            Structure told = description.structures[number];
            boolean more = true;
            for (int f = 0; f < told.fieldCount && more && !many; f++) {
                Field field = told.fields[f];
                if (isThere(field, node)) {
                    more = layField(node, field, depth);
                }
            }
        }

        /** While its fields are laid, a STRUCT's TO is the PLACE that is come to. */
        private boolean isThere(Field field, Node struct) {
            if (field.condition == NONE) {
                return true;
            }
            long there = reckoner.work(description.code, field.condition, struct, struct.to, image);
            if (reckoner.failed && struct.fault == 0) {
                struct.fault = FAILS;
            }
            return !reckoner.failed && there != 0;
        }

        /** Answers whether more fields of the STRUCT are laid. */
        private boolean layField(Node struct, Field field, int depth) {
            Node node = addNode(struct, field.kind, struct.to, field.name, field);
            if (node == null) {
                return false;
            }
            boolean inside = true;
            switch (field.kind) {
                case STRUCT:
                    layStruct(node, field.structure, depth + 1);
                    break;
                case WHOLE:
                    inside = layWhole(node, field);
                    break;
                case ARRAY:
                    inside = layArray(node, field, depth);
                    break;
                case BITS:
                    inside = layBits(node, field);
                    break;
                case TEXT:
                    inside = field.first == NONE ? layUntil(node, field) : layText(node, field);
                    break;
                case UNION:
                    layUnion(node, field, depth);
                    break;
                case POINTER:
                    inside = layPointer(node, field, depth);
                    break;
                case PAD:
                    inside = cover(node, (int) field.padding(node.from - struct.from));
                    break;
                case MAGIC:
                    inside = layMagic(node, field);
                    break;
                default:
                    inside = laySum(node, field);
                    break;
            }
            struct.to = node.to;
            return inside;
        }

        /** Gives a NODE its BYTES, FAULT 1 if it is OUTSIDE. */
        private boolean cover(Node node, int bytes) {
            if (bytes > image.length - node.from) {
                node.fault = BEYOND;
                return false;
            }
            node.to = node.from + bytes;
            return true;
        }

        private boolean layWhole(Node node, Field field) {
            if (!cover(node, field.width)) {
                return false;
            }
            if (field.pairs != NONE && description.pairWith(field.pairs, node.reading(image)) == NONE) {
                node.fault = NO_PAIR;
            }
            return true;
        }

        /** How many KIDS or BYTES an expr gives; NONE with the FAULT noted. */
        private int amount(Node node, Field field, int most) {
            long n = reckoner.work(description.code, field.first, node.parent, node.from, image);
            if (reckoner.failed) {
                node.fault = FAILS;
                return NONE;
            }
            if (n < 0 || n > most) {
                node.fault = OUT_OF_BOUNDS;
                return NONE;
            }
            return (int) n;
        }

        private int fillingAmount(Node node, Field field) {
            int each = field.structure == NONE ? field.width : description.sizeOf(field.structure);
            return each <= 0 ? 0 : Math.min(ARRAY_MOST, (image.length - node.from) / each);
        }

        private boolean layArray(Node node, Field field, int depth) {
            int wanted = field.first == NONE ? fillingAmount(node, field) : amount(node, field, ARRAY_MOST);
            boolean inside = true;
            for (int i = 0; i < wanted && inside && !many; i++) {
                if (field.structure != NONE) {
                    node.to = addStruct(node, field.structure, node.to, depth + 1);
                } else {
                    Node kid = addNode(node, WHOLE, node.to, 0, field);
                    inside = kid != null && cover(kid, field.width);
                    node.to = kid == null ? node.to : kid.to;
                }
            }
            return inside;
        }

        private boolean layBits(Node node, Field field) {
            if (!cover(node, field.width)) {
                return false;
            }
            for (int i = field.entryStart; i < field.entryStart + field.entryCount && !many; i++) {
                Node part = addNode(node, PART, node.from, description.entryNames[i], field);
                if (part != null) {
                    part.to = node.to;
                    part.lowest = description.entryTargets[i];
                    part.bits = (int) description.entryNumbers[i];
                }
            }
            return true;
        }

        private boolean layText(Node node, Field field) {
            int bytes = amount(node, field, TEXT_MOST);
            return bytes == NONE || cover(node, bytes);
        }

        private boolean layUntil(Node node, Field field) {
            int end = node.from;
            while (end < image.length && image.now[end] != field.number) {
                end++;
            }
            return cover(node, end + 1 - node.from);
        }

        private void layUnion(Node node, Field field, int depth) {
            long n = reckoner.work(description.code, field.first, node.parent, node.from, image);
            if (reckoner.failed) {
                node.fault = FAILS;
                return;
            }
            int found = description.entryWith(field.entryStart, field.entryCount, n);
            int target = found == NONE ? field.otherwise : description.entryTargets[found];
            if (target == NONE) {
                node.fault = NO_CASE;
            } else {
                node.to = addStruct(node, target, node.from, depth + 1);
            }
        }

        private boolean layPointer(Node node, Field field, int depth) {
            if (!cover(node, field.width)) {
                return false;
            }
            long aim = node.reading(image) * field.number;
            if (field.first != NONE) {
                aim += reckoner.work(description.code, field.first, node.parent, node.from, image);
                if (reckoner.failed) {
                    node.fault = FAILS;
                    return true;
                }
            }
            if (aim < 0 || aim >= image.length) {
                node.fault = NO_AIM;
            } else if (isAbove(node, field.structure, (int) aim)) {
                node.met = true;
            } else {
                addStruct(node, field.structure, (int) aim, depth + 1);
            }
            return true;
        }

        private static boolean isAbove(Node node, int number, int from) {
            for (Node above = node.parent; above != null; above = above.parent) {
                if (above.kind == STRUCT && above.structure == number && above.from == from) {
                    return true;
                }
            }
            return false;
        }

        private boolean layMagic(Node node, Field field) {
            if (!cover(node, field.entryCount)) {
                return false;
            }
            for (int i = 0; i < field.entryCount; i++) {
                long wanted = description.entryNumbers[field.entryStart + i];
                if (wanted != NONE && wanted != image.has(node.from + i)) {
                    node.fault = NOT_MAGIC;
                }
            }
            return true;
        }

        private boolean laySum(Node node, Field field) {
            if (!cover(node, field.width)) {
                return false;
            }
            node.fault = rangeFault(node);
            if (node.fault == 0 && ((node.reading(image) ^ due(node)) & lowBits(8 * field.width)) != 0) {
                node.fault = NOT_DUE;
            }
            return true;
        }

        /** Works out the PLACES of a SUM, answers the FAULT that this gives or 0. */
        private int rangeFault(Node sum) {
            Node struct = sum.parent;
            long a = reckoner.work(description.code, sum.field.first, struct, sum.from, image);
            boolean failed = reckoner.failed;
            long b = reckoner.work(description.code, sum.field.second, struct, sum.from, image);
            if (failed || reckoner.failed) {
                return FAILS;
            }
            if (a < 0 || b < a || b > image.length - struct.from) {
                return OUT_OF_BOUNDS;
            }
            sumFrom = struct.from + (int) a;
            sumTo = struct.from + (int) b;
            return 0;
        }

        private long due(Node sum) {
            long due = 0;
            int way = (int) sum.field.number;
            for (int p = sumFrom; p < sumTo; p++) {
                if (!sum.covers(p)) {
                    int b = image.has(p);
                    due = way == KEY_XOR ? due ^ b : way == KEY_ROLL ? due * 31 + b : due + b;
                }
            }
            return way == KEY_ONES ? -1 - due : due;
        }
    }
}
