import java.util.Arrays;

/** A tree of pages of bytes, as it lies on a disk. The words in capitals are those of the document. */
public final class SortedPages {
    public static final int BAD = -1, STATE = -2, FULL = -3, NONE = -9;

    private static final int PAGES = 32, SIZE = 64, HEAD = 3;
    private static final int FREE = 0, LEAF = 1, INNER = 2;
    private static final int SCANT = 32;
    private static final int MOST_LETTERS = 8, MOST_SPELLED = 5, ALPHABET = 26;
    private static final int MOST_BYTE = 255;
    private static final int LOAD_LETTERS = 3, LOAD_LAST = 17575, LOAD_STEP = 99, LOAD_KEYS = 60;
    private static final int TEXT_SIZE = 120, IMAGES = 2;
    private static final int PUT = 0, TAKE = 1, LOAD = 2;

    private final Tree tree = new Tree();
    private final Changer changer = new Changer(tree);
    private final Checker checker = new Checker(tree);
    private final Text text = new Text();
    private final Image[] images = new Image[IMAGES];
    private final Key spelled = new Key();

    public SortedPages() {
        for (int image = 0; image < IMAGES; image++) {
            images[image] = new Image();
        }
    }

    // ---- commands

    public int type(int c) {
        if (!isByte(c)) {
            return BAD;
        }
        return text.add(c) ? text.length : FULL;
    }

    public int clear() {
        int had = text.length;
        text.length = 0;
        return had;
    }

    public int run() {
        int fault = text.firstFault();
        if (fault >= 0) {
            return -10 - fault;
        }
        int done = 0;
        text.rewind();
        for (int i = 0; i < TEXT_SIZE && text.hasMore() && text.readCommand(); i++) {
            boolean passedOver = false;
            if (text.command == PUT) {
                passedOver = changer.putKey(text.key, text.number(0)) == FULL;
            } else if (text.command == TAKE) {
                passedOver = changer.takeKey(text.key) == NONE;
            } else {
                changer.loadRow(text.number(0), text.number(1), text.number(2));
            }
            done += passedOver ? 0 : 1;
        }
        text.length = 0;
        return done;
    }

    // ---- what is done

    public int put(int v, int n, int value) {
        if (!isSpelled(v, n) || !isByte(value)) {
            return BAD;
        }
        spelled.spell(v, n);
        return changer.putKey(spelled, value);
    }

    public int take(int v, int n) {
        if (!isSpelled(v, n)) {
            return BAD;
        }
        spelled.spell(v, n);
        return changer.takeKey(spelled);
    }

    public int load(int f, int s, int n) {
        if (!isWithin(f, 0, LOAD_LAST) || !isWithin(s, 1, LOAD_STEP) || !isWithin(n, 1, LOAD_KEYS)) {
            return BAD;
        }
        if (!endsInTime(f, s, n)) {
            return BAD;
        }
        changer.loadRow(f, s, n);
        return tree.levels;
    }

    // ---- what is found

    public int find(int v, int n) {
        if (!isSpelled(v, n)) {
            return BAD;
        }
        spelled.spell(v, n);
        tree.goDown(spelled);
        Page leaf = tree.pageOn(tree.levels - 1);
        int index = leaf.entriesBelow(spelled, false);
        return leaf.isEntry(index, spelled) ? leaf.tail(index) : NONE;
    }

    public int rank(int v, int n, int what) {
        if (!isSpelled(v, n) || !isWithin(what, 0, 1)) {
            return BAD;
        }
        spelled.spell(v, n);
        int keys = 0;
        for (int p = 0; p < PAGES; p++) {
            Page page = tree.pageOf(p);
            if (page.sort() == LEAF) {
                keys += what == 0 ? page.entriesBelow(spelled, false) : page.entriesThatBegin(spelled);
            }
        }
        return keys;
    }

    public int path(int v, int n, int level) {
        if (!isSpelled(v, n) || level < 0) {
            return BAD;
        }
        if (level >= tree.levels) {
            return NONE;
        }
        spelled.spell(v, n);
        tree.goDown(spelled);
        return tree.numberOn(level);
    }

    public int letter(int k, int j) {
        int place = tree.placeOfKey(k);
        if (place < 0 || !isWithin(j, 0, MOST_LETTERS - 1)) {
            return BAD;
        }
        Page leaf = tree.pageOf(place / SIZE);
        int index = place % SIZE;
        return j < leaf.letters(index) ? leaf.letterOf(index, j) : NONE;
    }

    public int value(int k) {
        int place = tree.placeOfKey(k);
        return place < 0 ? BAD : tree.pageOf(place / SIZE).tail(place % SIZE);
    }

    // ---- pages

    public int page(int p, int what) {
        if (!isPage(p)) {
            return BAD;
        }
        Page page = tree.pageOf(p);
        switch (what) {
            case 0: return page.sort();
            case 1: return page.entries();
            case 2: return page.link();
            case 3: return page.used();
            default: return BAD;
        }
    }

    public int byteAt(int p, int i) {
        return isPage(p) && isWithin(i, 0, SIZE - 1) ? tree.pageOf(p).at(i) : BAD;
    }

    public int check(int p, int i, int v) {
        if (!isPage(p) || !isWithin(i, 0, SIZE - 1) || !isByte(v)) {
            return BAD;
        }
        Page page = tree.pageOf(p);
        int before = page.at(i);
        page.set(i, v);
        int wrong = checker.firstWrong();
        page.set(i, before);
        return wrong;
    }

    public int count(int what) {
        switch (what) {
            case 0: return tree.keys();
            case 1: return tree.levels;
            case 2: return tree.root;
            case 3: return tree.pagesOfSort(FREE);
            case 4: return tree.usedOfAll();
            case 5: return tree.pagesOfSort(LEAF);
            case 6: return tree.firstLeaf();
            case 7: return tree.separatorLetters();
            default: return BAD;
        }
    }

    public long digest() {
        long h = 17;
        for (int p = 0; p < PAGES; p++) {
            Page page = tree.pageOf(p);
            for (int i = 0; i < SIZE; i++) {
                h = 31 * h + page.at(i);
            }
        }
        return h;
    }

    // ---- images

    public int keep(int image) {
        if (image < 0 || image >= images.length) {
            return BAD;
        }
        images[image].copyFrom(tree);
        return tree.keys();
    }

    public int back(int image) {
        if (image < 0 || image >= images.length) {
            return BAD;
        }
        if (!images[image].kept) {
            return STATE;
        }
        images[image].copyTo(tree);
        return tree.keys();
    }

    public int times(int what) {
        switch (what) {
            case 0: return text.length;
            case 1: return changer.splits;
            case 2: return changer.joins;
            case 3: return changer.shares;
            default: return BAD;
        }
    }

    private static boolean isWithin(int number, int least, int most) {
        return number >= least && number <= most;
    }

    private static boolean isByte(int number) {
        return isWithin(number, 0, MOST_BYTE);
    }

    private static boolean isPage(int number) {
        return isWithin(number, 0, PAGES - 1);
    }

    private static boolean isLetter(int sign) {
        return sign >= 'a' && sign <= 'z';
    }

    private static boolean endsInTime(int f, int s, int n) {
        return f + s * (n - 1) <= LOAD_LAST;
    }

    private static boolean isSpelled(int v, int n) {
        if (!isWithin(n, 1, MOST_SPELLED)) {
            return false;
        }
        int bound = 1;
        for (int j = 0; j < n; j++) {
            bound *= ALPHABET;
        }
        return isWithin(v, 0, bound - 1);
    }

    /** A KEY or a SEPARATOR; written anew for each use, so that no call has to make one. */
    private static final class Key {
        private final int[] letters = new int[MOST_LETTERS];
        private int length;

        void empty() {
            length = 0;
        }

        void add(int letter) {
            if (length >= 0 && length < letters.length) {
                letters[length] = letter;
                length++;
            }
        }

        /** Behind the last letter 0, which is below all letters: so the head of a KEY is less than it. */
        int at(int j) {
            return j >= 0 && j < length && j < letters.length ? letters[j] : 0;
        }

        void copyFrom(Key other) {
            empty();
            for (int j = 0; j < other.length; j++) {
                add(other.at(j));
            }
        }

        void spell(int v, int n) {
            length = Math.max(0, Math.min(n, letters.length));
            int rest = v;
            for (int j = length - 1; j >= 0; j--) {
                letters[j] = 'a' + rest % ALPHABET;
                rest /= ALPHABET;
            }
        }

        /** Cuts this KEY to its shortest head that is greater than one that is less than it. */
        void cutAbove(Key lesser) {
            int same = 0;
            while (same < length && at(same) == lesser.at(same)) {
                same++;
            }
            length = Math.min(length, same + 1);
        }
    }

    /** BYTES and the ENTRIES in them, told by their index; a tail is the BYTE behind an ENTRY's letters. */
    private static final class Page {
        private final int[] bytes;

        /** A wider one than 64 holds what is yet to be SHARED. */
        Page(int size) {
            bytes = new int[Math.max(size, SIZE)];
        }

        int at(int i) {
            return i >= 0 && i < bytes.length ? bytes[i] : 0;
        }

        void set(int i, int b) {
            if (i >= 0 && i < bytes.length) {
                bytes[i] = b;
            }
        }

        int sort() {
            return bytes[0];
        }

        int entries() {
            return bytes[1];
        }

        /** NEXT and 1 of a LEAF, FIRST of an INNER. */
        int link() {
            return bytes[2];
        }

        void setLink(int link) {
            bytes[2] = link;
        }

        int offset(int index) {
            int offset = HEAD;
            for (int i = 0; i < index && offset < bytes.length; i++) {
                offset += bytes[offset] + 2;
            }
            return offset;
        }

        int used() {
            return sort() == FREE ? 0 : offset(entries());
        }

        int letters(int index) {
            return at(offset(index));
        }

        int letterOf(int index, int j) {
            int offset = offset(index);
            return j >= 0 && j < at(offset) ? at(offset + 1 + j) : 0;
        }

        int tail(int index) {
            return at(offset(index + 1) - 1);
        }

        void setTail(int index, int tail) {
            set(offset(index + 1) - 1, tail);
        }

        int child(int slot) {
            return slot > 0 ? at(offset(slot) - 1) : link();
        }

        void readKey(int index, Key key) {
            int offset = offset(index);
            int length = Math.min(at(offset), MOST_LETTERS);
            key.empty();
            for (int j = 1; j <= length; j++) {
                key.add(at(offset + j));
            }
        }

        int compare(int index, Key key) {
            int offset = offset(index);
            int length = at(offset);
            for (int j = 0; j < MOST_LETTERS; j++) {
                int letter = j < length ? at(offset + 1 + j) : 0;
                if (letter != key.at(j)) {
                    return letter < key.at(j) ? -1 : 1;
                }
            }
            return 0;
        }

        boolean isEntry(int index, Key key) {
            return index < entries() && compare(index, key) == 0;
        }

        int entriesBelow(Key key, boolean orSame) {
            int below = 0;
            while (below < entries() && compare(below, key) < (orSame ? 1 : 0)) {
                below++;
            }
            return below;
        }

        int entriesThatBegin(Key head) {
            int those = 0;
            for (int index = 0; index < entries(); index++) {
                int same = 0;
                while (same < head.length && letterOf(index, same) == head.at(same)) {
                    same++;
                }
                if (same == head.length) {
                    those++;
                }
            }
            return those;
        }

        void release() {
            Arrays.fill(bytes, 0);
        }

        void begin(int sort, int link) {
            Arrays.fill(bytes, 0);
            bytes[0] = sort;
            bytes[2] = link;
        }

        void copyFrom(Page other) {
            for (int i = 0; i < bytes.length; i++) {
                bytes[i] = other.at(i);
            }
        }

        void append(Page other, int from, int to) {
            int end = offset(entries());
            int start = other.offset(from);
            int length = other.offset(to) - start;
            for (int i = 0; i < length; i++) {
                set(end + i, other.at(start + i));
            }
            bytes[1] += to - from;
        }

        void insert(int index, Key key, int tail) {
            int start = offset(index);
            int more = key.length + 2;
            for (int i = offset(entries()) - 1; i >= start; i--) {
                set(i + more, at(i));
            }
            set(start, key.length);
            for (int j = 0; j < key.length; j++) {
                set(start + 1 + j, key.at(j));
            }
            set(start + more - 1, tail);
            bytes[1]++;
        }

        void remove(int index) {
            int start = offset(index);
            int less = offset(index + 1) - start;
            for (int i = start; i < bytes.length; i++) {
                bytes[i] = at(i + less);
            }
            bytes[1]--;
        }

        /** How many ENTRIES, from the first on, are the fewest that have half of all BYTES, or more. */
        int half() {
            int all = offset(entries()) - HEAD;
            int index = 0;
            while (index < entries() && 2 * (offset(index) - HEAD) < all) {
                index++;
            }
            return index;
        }
    }

    /** All PAGES, and the way by which one came DOWN last. */
    private static final class Tree {
        private final Page[] pages = new Page[PAGES];
        private final Page nowhere = new Page(SIZE);
        private final int[] way = new int[PAGES];
        private final int[] slots = new int[PAGES];
        private int root;
        private int levels = 1;

        Tree() {
            for (int p = 0; p < PAGES; p++) {
                pages[p] = new Page(SIZE);
            }
            pages[0].begin(LEAF, 0);
        }

        /** A number that is no PAGE's leads to one that belongs to none, so that no index is ever wrong. */
        Page pageOf(int number) {
            return number >= 0 && number < pages.length ? pages[number] : nowhere;
        }

        int lowestFree() {
            int number = 0;
            while (number < PAGES && pageOf(number).sort() != FREE) {
                number++;
            }
            return number;
        }

        void goDown(Key key) {
            way[0] = root;
            for (int level = 1; level < levels && level < way.length && level < slots.length; level++) {
                Page above = pageOf(way[level - 1]);
                slots[level] = above.entriesBelow(key, true);
                way[level] = above.child(slots[level]);
            }
        }

        int numberOn(int level) {
            return level >= 0 && level < way.length ? way[level] : 0;
        }

        Page pageOn(int level) {
            return pageOf(numberOn(level));
        }

        /** Which child of the INNER above the PAGE on a level is, FIRST being 0. */
        int slotOn(int level) {
            return level >= 0 && level < slots.length ? slots[level] : 0;
        }

        int firstLeaf() {
            int number = root;
            for (int level = 1; level < levels; level++) {
                number = pageOf(number).link();
            }
            return number;
        }

        /** The LEAF's number times 64, and the index in it; BAD if there is no such KEY. */
        int placeOfKey(int k) {
            int index = k;
            int number = firstLeaf();
            for (int i = 0; i < PAGES && number >= 0 && index >= 0; i++) {
                Page leaf = pageOf(number);
                if (index < leaf.entries()) {
                    return number * SIZE + index;
                }
                index -= leaf.entries();
                number = leaf.link() - 1;
            }
            return BAD;
        }

        int pagesOfSort(int sort) {
            int those = 0;
            for (int p = 0; p < PAGES; p++) {
                those += pageOf(p).sort() == sort ? 1 : 0;
            }
            return those;
        }

        int keys() {
            int keys = 0;
            for (int p = 0; p < PAGES; p++) {
                keys += pageOf(p).sort() == LEAF ? pageOf(p).entries() : 0;
            }
            return keys;
        }

        int usedOfAll() {
            int used = 0;
            for (int p = 0; p < PAGES; p++) {
                used += pageOf(p).used();
            }
            return used;
        }

        int separatorLetters() {
            int letters = 0;
            for (int p = 0; p < PAGES; p++) {
                Page page = pageOf(p);
                if (page.sort() == INNER) {
                    letters += page.used() - HEAD - 2 * page.entries();
                }
            }
            return letters;
        }
    }

    /** PUT, TAKE and LOAD. */
    private static final class Changer {
        private final Tree tree;
        private final Page wide = new Page(4 * SIZE);
        private final Key separator = new Key();
        private final Key lastLeft = new Key();
        private int splits;
        private int joins;
        private int shares;

        Changer(Tree tree) {
            this.tree = tree;
        }

        int putKey(Key key, int value) {
            tree.goDown(key);
            Page leaf = tree.pageOn(tree.levels - 1);
            int index = leaf.entriesBelow(key, false);
            if (leaf.isEntry(index, key)) {
                int before = leaf.tail(index);
                leaf.setTail(index, value);
                return before;
            }
            if (tree.pagesOfSort(FREE) <= tree.levels) {
                return FULL;
            }
            separator.copyFrom(key);
            insertUpward(index, value);
            return NONE;
        }

        /** What is to come into a LEAF, and into each INNER above as long as PAGES are SPLIT, is in separator. */
        private void insertUpward(int leafIndex, int value) {
            int index = leafIndex;
            int tail = value;
            for (int level = tree.levels - 1; level >= 0; level--) {
                Page page = tree.pageOn(level);
                wide.copyFrom(page);
                wide.insert(index, separator, tail);
                if (wide.used() <= SIZE) {
                    page.copyFrom(wide);
                    return;
                }
                tail = split(page);
                index = tree.slotOn(level);
            }
            raiseRoot(tail);
        }

        private int split(Page left) {
            int number = tree.lowestFree();
            Page right = tree.pageOf(number);
            if (wide.sort() == LEAF) {
                right.setLink(left.link());
                left.setLink(number + 1);
            }
            int half = wide.half();
            readSeparator(half);
            deal(half, left, right);
            splits++;
            return number;
        }

        private void raiseRoot(int right) {
            int number = tree.lowestFree();
            Page top = tree.pageOf(number);
            top.begin(INNER, tree.root);
            top.insert(0, separator, right);
            tree.root = number;
            tree.levels++;
        }

        private void readSeparator(int half) {
            wide.readKey(half, separator);
            if (wide.sort() == LEAF) {
                wide.readKey(half - 1, lastLeft);
                separator.cutAbove(lastLeft);
            }
        }

        /** LEAVES keep the links that they have, for they are the same whatever ENTRIES are SHARED. */
        private void deal(int half, Page left, Page right) {
            boolean inner = wide.sort() == INNER;
            left.begin(wide.sort(), left.link());
            left.append(wide, 0, half);
            right.begin(wide.sort(), inner ? wide.tail(half) : right.link());
            right.append(wide, inner ? half + 1 : half, wide.entries());
        }

        int takeKey(Key key) {
            tree.goDown(key);
            Page leaf = tree.pageOn(tree.levels - 1);
            int index = leaf.entriesBelow(key, false);
            if (!leaf.isEntry(index, key)) {
                return NONE;
            }
            int had = leaf.tail(index);
            leaf.remove(index);
            int level = tree.levels - 1;
            while (level > 0 && tree.pageOn(level).used() < SCANT && mend(level)) {
                level--;
            }
            if (level == 0) {
                lowerRoot();
            }
            return had;
        }

        /** False if the INNER above need not be looked at: it has as many ENTRIES as ahead. */
        private boolean mend(int level) {
            Page above = tree.pageOn(level - 1);
            int slot = tree.slotOn(level);
            int between = slot < above.entries() ? slot : slot - 1;
            if (between < 0) {
                return false;
            }
            Page left = tree.pageOf(above.child(between));
            Page right = tree.pageOf(above.child(between + 1));
            gather(above, between, left, right);
            if (wide.used() <= SIZE) {
                join(left, right);
                above.remove(between);
                return true;
            }
            shareAnew(above, between, left, right);
            return false;
        }

        private void gather(Page above, int between, Page left, Page right) {
            wide.copyFrom(left);
            if (wide.sort() == INNER) {
                above.readKey(between, separator);
                wide.insert(wide.entries(), separator, right.link());
            }
            wide.append(right, 0, right.entries());
        }

        private void join(Page left, Page right) {
            left.copyFrom(wide);
            if (wide.sort() == LEAF) {
                left.setLink(right.link());
            }
            right.release();
            joins++;
        }

        private void shareAnew(Page above, int between, Page left, Page right) {
            int half = wide.half();
            readSeparator(half);
            if (above.used() - above.letters(between) + separator.length > SIZE) {
                return;
            }
            int number = above.child(between + 1);
            above.remove(between);
            above.insert(between, separator, number);
            deal(half, left, right);
            shares++;
        }

        private void lowerRoot() {
            Page top = tree.pageOf(tree.root);
            if (top.sort() == INNER && top.entries() == 0) {
                tree.root = top.link();
                tree.levels--;
                top.release();
            }
        }

        void loadRow(int f, int s, int n) {
            for (int p = 0; p < PAGES; p++) {
                tree.pageOf(p).release();
            }
            tree.root = 0;
            tree.levels = 1;
            int last = fillLeaves(f, s, n);
            if (last > 0) {
                shareWithLast(last);
                coverLeaves(last);
            }
        }

        private int fillLeaves(int f, int s, int n) {
            int number = 0;
            tree.pageOf(0).begin(LEAF, 0);
            for (int i = 0; i < n; i++) {
                separator.spell(f + s * i, LOAD_LETTERS);
                if (tree.pageOf(number).used() + separator.length + 2 > SIZE) {
                    tree.pageOf(number).setLink(number + 2);
                    number++;
                    tree.pageOf(number).begin(LEAF, 0);
                }
                Page leaf = tree.pageOf(number);
                leaf.insert(leaf.entries(), separator, i);
            }
            return number;
        }

        private void shareWithLast(int last) {
            Page left = tree.pageOf(last - 1);
            Page right = tree.pageOf(last);
            if (right.used() < SCANT) {
                wide.copyFrom(left);
                wide.append(right, 0, right.entries());
                deal(wide.half(), left, right);
            }
        }

        /** 60 KEYS fill five LEAVES at most, whose four SEPARATORS always come into one INNER: the ROOT. */
        private void coverLeaves(int last) {
            tree.root = tree.lowestFree();
            tree.levels = 2;
            Page top = tree.pageOf(tree.root);
            top.begin(INNER, 0);
            for (int number = 1; number <= last; number++) {
                Page left = tree.pageOf(number - 1);
                left.readKey(left.entries() - 1, lastLeft);
                tree.pageOf(number).readKey(0, separator);
                separator.cutAbove(lastLeft);
                top.insert(top.entries(), separator, number);
            }
        }
    }

    /** CHECK; a bound is told as its PAGE's number times 64 and its index there. */
    private static final class Checker {
        private static final int NO_BOUND = -1;

        private final Tree tree;
        private final boolean[] seen = new boolean[PAGES];
        private final int[] leaves = new int[PAGES];
        private final Key key = new Key();
        private int leafCount;

        Checker(Tree tree) {
            this.tree = tree;
        }

        int firstWrong() {
            for (int p = 0; p < PAGES; p++) {
                seen[p] = false;
            }
            leafCount = 0;
            int wrong = walk(tree.root, 0, NO_BOUND, NO_BOUND);
            if (wrong == 0) {
                wrong = wrongNext();
            }
            return wrong == 0 ? strayPage() : wrong;
        }

        /** The depth ends it: on the last of LEVELS no PAGE has children. */
        private int walk(int number, int depth, int low, int high) {
            Page page = tree.pageOf(number);
            comeTo(number);
            int why = whyWrong(page, depth, low, high);
            if (why != 0) {
                return 100 * why + number;
            }
            if (isLast(depth)) {
                noteLeaf(number);
                return 0;
            }
            return walkChildren(number, depth, low, high);
        }

        private int walkChildren(int number, int depth, int low, int high) {
            Page page = tree.pageOf(number);
            for (int slot = 0; slot <= page.entries(); slot++) {
                int ahead = slot > 0 ? number * SIZE + slot - 1 : low;
                int behind = slot < page.entries() ? number * SIZE + slot : high;
                int wrong = walk(page.child(slot), depth + 1, ahead, behind);
                if (wrong != 0) {
                    return wrong;
                }
            }
            return 0;
        }

        private boolean isLast(int depth) {
            return depth >= tree.levels - 1;
        }

        private void comeTo(int number) {
            if (number >= 0 && number < seen.length) {
                seen[number] = true;
            }
        }

        private void noteLeaf(int number) {
            if (leafCount < leaves.length) {
                leaves[leafCount] = number;
                leafCount++;
            }
        }

        private int whyWrong(Page page, int depth, int low, int high) {
            if (page.sort() != (isLast(depth) ? LEAF : INNER)) {
                return 1;
            }
            boolean mayBeEmpty = depth == 0 && page.sort() == LEAF;
            if (page.entries() == 0 && !mayBeEmpty || !isReadable(page)) {
                return 2;
            }
            if (!rises(page)) {
                return 3;
            }
            if (page.entries() > 0 && !isBetween(page, low, high)) {
                return 4;
            }
            return page.sort() == INNER && hasWrongChild(page) ? 5 : 0;
        }

        private static boolean isReadable(Page page) {
            int offset = HEAD;
            for (int i = 0; i < page.entries(); i++) {
                int letters = page.at(offset);
                if (!isWithin(letters, 1, MOST_LETTERS) || offset + letters + 2 > SIZE) {
                    return false;
                }
                for (int j = 1; j <= letters; j++) {
                    if (!isLetter(page.at(offset + j))) {
                        return false;
                    }
                }
                offset += letters + 2;
            }
            int end = offset;
            while (end < SIZE && page.at(end) == 0) {
                end++;
            }
            return end >= SIZE;
        }

        private boolean rises(Page page) {
            for (int index = 1; index < page.entries(); index++) {
                page.readKey(index - 1, key);
                if (page.compare(index, key) <= 0) {
                    return false;
                }
            }
            return true;
        }

        /** ENTRIES rise here, so the first and the last of them speak for all. */
        private boolean isBetween(Page page, int low, int high) {
            if (low != NO_BOUND) {
                tree.pageOf(low / SIZE).readKey(low % SIZE, key);
                if (page.compare(0, key) < 0) {
                    return false;
                }
            }
            if (high != NO_BOUND) {
                tree.pageOf(high / SIZE).readKey(high % SIZE, key);
                return page.compare(page.entries() - 1, key) < 0;
            }
            return true;
        }

        private boolean hasWrongChild(Page page) {
            for (int slot = 0; slot <= page.entries(); slot++) {
                int child = page.child(slot);
                if (child < 0 || child >= seen.length || seen[child]) {
                    return true;
                }
                for (int ahead = 0; ahead < slot; ahead++) {
                    if (page.child(ahead) == child) {
                        return true;
                    }
                }
            }
            return false;
        }

        private int wrongNext() {
            for (int i = 0; i < leafCount && i < leaves.length; i++) {
                int due = i + 1 < leafCount && i + 1 < leaves.length ? leaves[i + 1] + 1 : 0;
                if (tree.pageOf(leaves[i]).link() != due) {
                    return 600 + leaves[i];
                }
            }
            return 0;
        }

        private int strayPage() {
            for (int p = 0; p < PAGES; p++) {
                if (!seen[p] && !isBlank(tree.pageOf(p))) {
                    return 700 + p;
                }
            }
            return 0;
        }

        private static boolean isBlank(Page page) {
            for (int i = 0; i < SIZE; i++) {
                if (page.at(i) != 0) {
                    return false;
                }
            }
            return true;
        }
    }

    /** THE TEXT, the TOKEN and the COMMAND that were read last in it. */
    private static final class Text {
        private static final int END = 0, LETTERS = 1, NUMBER = 2, STOP = 3, WRONG = 4;
        private static final int MOST_NUMBER = 99999;

        private final int[] bytes = new int[TEXT_SIZE];
        private int length;
        private int start;
        private int end;
        private int kind;
        private int figures;
        private int command;
        private final Key key = new Key();
        private final int[] numbers = new int[3];

        boolean add(int c) {
            if (length < 0 || length >= bytes.length) {
                return false;
            }
            bytes[length] = c;
            length++;
            return true;
        }

        private int at(int i) {
            return i >= 0 && i < length && i < bytes.length ? bytes[i] : 0;
        }

        void rewind() {
            end = 0;
        }

        /** FAULT, or -1: it is always where the TOKEN begins that was read last. */
        int firstFault() {
            rewind();
            for (int i = 0; i <= TEXT_SIZE && hasMore(); i++) {
                if (!readCommand()) {
                    return start;
                }
            }
            return -1;
        }

        /** Reads the first TOKEN of the next COMMAND. */
        boolean hasMore() {
            readToken();
            return kind != END;
        }

        /** Reads what is behind a COMMAND's first TOKEN, up to the first one that can't stand there. */
        boolean readCommand() {
            if (isWord("put")) {
                command = PUT;
                return readKey() && readNumber(0, 0, MOST_BYTE) && readStop();
            }
            if (isWord("take")) {
                command = TAKE;
                return readKey() && readStop();
            }
            command = LOAD;
            return isWord("load") && readNumber(0, 0, LOAD_LAST) && readNumber(1, 1, LOAD_STEP)
                && readNumber(2, 1, LOAD_KEYS) && endsInTime(number(0), number(1), number(2)) && readStop();
        }

        int number(int which) {
            return which >= 0 && which < numbers.length ? numbers[which] : 0;
        }

        private boolean readKey() {
            readToken();
            if (kind != LETTERS || end - start > MOST_LETTERS) {
                return false;
            }
            key.empty();
            for (int i = start; i < end; i++) {
                key.add(at(i));
            }
            return true;
        }

        private boolean readNumber(int which, int least, int most) {
            readToken();
            if (kind != NUMBER || !isWithin(figures, least, most) || which < 0 || which >= numbers.length) {
                return false;
            }
            numbers[which] = figures;
            return true;
        }

        private boolean readStop() {
            readToken();
            return kind == STOP;
        }

        private boolean isWord(String word) {
            if (kind != LETTERS || end - start != word.length()) {
                return false;
            }
            for (int j = 0; j < word.length(); j++) {
                if (at(start + j) != word.charAt(j)) {
                    return false;
                }
            }
            return true;
        }

        private void readToken() {
            start = end;
            while (start < length && at(start) == ' ') {
                start++;
            }
            if (start >= length) {
                kind = END;
                end = start;
                return;
            }
            end = start + 1;
            if (isLetter(at(start))) {
                kind = LETTERS;
                while (end < length && isLetter(at(end))) {
                    end++;
                }
            } else if (isFigure(at(start))) {
                readFigures();
            } else {
                kind = at(start) == ';' ? STOP : WRONG;
            }
        }

        /** Once above the most that may be, the NUMBER stays there: it must not wrap around. */
        private void readFigures() {
            figures = at(start) - '0';
            while (end < length && isFigure(at(end))) {
                if (figures <= MOST_NUMBER) {
                    figures = 10 * figures + at(end) - '0';
                }
                end++;
            }
            boolean zeroAhead = at(start) == '0' && end - start > 1;
            kind = figures > MOST_NUMBER || zeroAhead ? WRONG : NUMBER;
        }

        private static boolean isFigure(int sign) {
            return sign >= '0' && sign <= '9';
        }
    }

    /** What back needs: every BYTE, and what stands in none of them. */
    private static final class Image {
        private final int[] bytes = new int[PAGES * SIZE];
        private int root;
        private int levels;
        private boolean kept;

        void copyFrom(Tree tree) {
            for (int i = 0; i < bytes.length; i++) {
                bytes[i] = tree.pageOf(i / SIZE).at(i % SIZE);
            }
            root = tree.root;
            levels = tree.levels;
            kept = true;
        }

        void copyTo(Tree tree) {
            for (int i = 0; i < bytes.length; i++) {
                tree.pageOf(i / SIZE).set(i % SIZE, bytes[i]);
            }
            tree.root = root;
            tree.levels = levels;
        }
    }
}
