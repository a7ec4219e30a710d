import java.util.Arrays;
import java.util.NoSuchElementException;

/** Keys on a torus of zones: nodes that come, leave, die and are noticed, in one to three realities. */
public final class TorusZones {
    public static final int NONE = -1;

    private static final int SIDE = 32;
    private static final int ROUND = SIDE - 1;
    private static final int CELLS = SIDE * SIDE;
    private static final int DEEPEST = 10;
    private static final int ZONE_NUMBERS = 2 * CELLS;
    private static final int REALITIES = 3;
    private static final int NODES = 10;
    private static final int PLACES = 100;
    private static final int LANDMARKS = 3;
    private static final int KEYS = 100;
    private static final int VALUES = 1000;
    private static final int TAPE_BYTES = 400;
    private static final int ACTS_OF_A_TEXT = 14;
    private static final int REMEMBERED = 8;

    private static final int AWAY = 0;
    private static final int UP = 1;
    private static final int DEAD = 2;

    private static final int NET = 0;
    private static final int LANDMARK = 1;
    private static final int JOIN = 2;
    private static final int JOIN_NEAR = 3;
    private static final int LEAVE = 4;
    private static final int CRASH = 5;
    private static final int NOTICE = 6;
    private static final int TIDY = 7;
    private static final int PUT = 8;
    private static final int CUT = 9;
    private static final int MEND = 10;

    private static final int DONE = 0;
    private static final int NO_NODE_AWAY = 1;
    private static final int ZONE_TOO_DEEP = 2;
    private static final int ZONE_OF_THE_DEAD = 3;
    private static final int NOT_UP = 4;
    private static final int NOT_DEAD = 5;
    private static final int NOBODY_TO_TAKE = 6;
    private static final int SOME_DEAD = 7;
    private static final int HELD_NOWHERE = 8;
    private static final int NOT_STORED = 9;
    private static final int LANDMARKS_FULL = 10;

    /** The five bits of a coordinate with a free bit behind each, as they stand in a cell's zone number. */
    private static final int[] SPREAD = {
        0, 1, 4, 5, 16, 17, 20, 21, 64, 65, 68, 69, 80, 81, 84, 85,
        256, 257, 260, 261, 272, 273, 276, 277, 320, 321, 324, 325, 336, 337, 340, 341
    };

    private final Tape tape = new Tape();
    private final Reader reader = new Reader(tape);
    private final Act act = new Act();
    private final Past past = new Past();
    private final Walker walker = new Walker();
    private final Survey survey = new Survey(walker);
    private final Net kept = new Net();
    private boolean hasImage = false;
    private Net now = new Net();
    private Net ahead = new Net();
    private int faultAt = NONE;
    private int refusedBy = DONE;

    public TorusZones() {
    }

    // ---- the tape and its texts ----

    public int feed(int a, int b, int c, int d, int e) {
        if (tape.length + 20 > TAPE_BYTES) {
            return NONE;
        }
        tape.append(a);
        tape.append(b);
        tape.append(c);
        tape.append(d);
        tape.append(e);
        return tape.length;
    }

    public boolean end(int n) {
        if (n < 0 || n > tape.length) {
            return false;
        }
        tape.length = n;
        return true;
    }

    public int acts() throws IllegalArgumentException {
        ahead.copyFrom(now);
        reader.begin();
        int refused = DONE;
        int done = 0;
        // Each act is done as soon as it is read: whichever comes first, a slip or a refusal, is the fault.
        for (int turn = 0; turn <= ACTS_OF_A_TEXT && refused == DONE && reader.takeAct(act); turn++) {
            refused = now.refusalOf(act);
            if (refused == DONE) {
                now.perform(act);
                done++;
            }
        }
        tape.length = 0;
        if (refused != DONE) {
            refusedBy = refused;
            dropText(reader.firstWord);
            throw new IllegalArgumentException("an act is refused");
        }
        if (reader.wrong) {
            dropText(reader.at);
            throw new IllegalArgumentException("the text is wrong");
        }
        faultAt = NONE;
        past.forget();
        if (done > 0) {
            refusedBy = DONE;
        }
        return done;
    }

    private void dropText(int wrongByte) {
        faultAt = wrongByte;
        Net spoilt = now;
        now = ahead;
        ahead = spoilt;
    }

    public int fault() {
        return faultAt;
    }

    public int why() {
        return refusedBy;
    }

    // ---- acts by calls ----

    public int join(int px, int py, int x, int y) throws IllegalArgumentException, IllegalStateException {
        if (!isPlace(px, py) || !isCell(x, y)) {
            throw new IllegalArgumentException("no such place or point");
        }
        act.tell(JOIN, px, py, x, y);
        settle();
        return now.perform(act);
    }

    public int near(int px, int py) throws IllegalArgumentException, IllegalStateException {
        if (!isPlace(px, py)) {
            throw new IllegalArgumentException("no such place");
        }
        act.tell(JOIN_NEAR, px, py, 0, 0);
        settle();
        return now.perform(act);
    }

    public int go(int node, int how) throws IndexOutOfBoundsException, NoSuchElementException, IllegalStateException {
        checkNode(node);
        checkWhat(how, 3);
        act.tell(LEAVE + how, node, 0, 0, 0);
        settle();
        return now.perform(act);
    }

    public int tidy() throws IllegalStateException {
        act.tell(TIDY, 0, 0, 0, 0);
        settle();
        return now.perform(act);
    }

    public int put(int key, int value)
            throws IndexOutOfBoundsException, IllegalArgumentException, IllegalStateException {
        checkKey(key);
        if (value < 0 || value >= VALUES) {
            throw new IllegalArgumentException("no such value");
        }
        act.tell(PUT, key, value, 0, 0);
        settle();
        return now.perform(act);
    }

    public int cut(int key) throws IndexOutOfBoundsException, IllegalStateException {
        checkKey(key);
        act.tell(CUT, key, 0, 0, 0);
        settle();
        return now.perform(act);
    }

    public int mend() {
        act.tell(MEND, 0, 0, 0, 0);
        settle();
        return now.perform(act);
    }

    /** Refuses the act that is told, or remembers what stands ahead of it. */
    private void settle() {
        refusedBy = now.refusalOf(act);
        if (refusedBy != DONE) {
            throw new IllegalStateException("the act is refused");
        }
        past.keep(now);
    }

    public int undo() throws IllegalStateException {
        if (past.size == 0) {
            throw new IllegalStateException("no act is remembered");
        }
        past.takeBack(now);
        return past.size;
    }

    // ---- what is asked ----

    public int node(int node, int what) throws IndexOutOfBoundsException, NoSuchElementException {
        checkNode(node);
        checkWhat(what, 3);
        if (what == 0) {
            return now.status[node];
        }
        if (now.status[node] == AWAY) {
            return NONE;
        }
        return what == 1 ? now.placeX[node] : now.placeY[node];
    }

    public int held(int node, int reality, int what) throws IndexOutOfBoundsException, NoSuchElementException {
        checkNode(node);
        checkReality(reality);
        checkWhat(what, 5);
        Space space = now.spaces[reality];
        switch (what) {
            case 0:
                return space.pieces[node];
            case 1:
                return space.volume[node];
            case 2:
                walker.lookBeside(space, reality);
                return walker.besideIn(reality, node);
            case 3:
                return now.loadOf(node, reality);
            default:
                return hubOf(reality) == node ? 1 : 0;
        }
    }

    public int zone(int node, int reality, int k) throws IndexOutOfBoundsException {
        checkNode(node);
        checkReality(reality);
        return now.spaces[reality].zoneOf(node, k);
    }

    public int box(int zone, int what) throws IllegalArgumentException, NoSuchElementException {
        if (zone < 1 || zone >= ZONE_NUMBERS) {
            throw new IllegalArgumentException("no such zone");
        }
        checkWhat(what, 5);
        int depth = Space.depthOf(zone);
        switch (what) {
            case 0:
                return depth;
            case 1:
                return Space.leastX(zone, depth);
            case 2:
                return Space.leastY(zone, depth);
            case 3:
                return Space.wide(depth);
            default:
                return Space.high(depth);
        }
    }

    public int cell(int reality, int x, int y, int what)
            throws IndexOutOfBoundsException, IllegalArgumentException, NoSuchElementException {
        checkReality(reality);
        checkCell(x, y);
        checkWhat(what, 2);
        Space space = now.spaces[reality];
        if (what == 1) {
            return space.nodeAt(x, y);
        }
        int zone = space.zoneAt(x, y);
        return zone == 0 ? NONE : zone;
    }

    public int heir(int node, int reality, int k) throws IndexOutOfBoundsException {
        checkNode(node);
        checkReality(reality);
        Space space = now.spaces[reality];
        int zone = space.zoneOf(node, k);
        return zone == NONE ? NONE : space.heirOf(zone, now.nodesThatAre(UP) & ~(1 << node));
    }

    public int key(int key, int what) throws IndexOutOfBoundsException, NoSuchElementException {
        checkKey(key);
        checkWhat(what, 2);
        return what == 0 ? now.value[key] : now.copies[key];
    }

    public int point(int key, int reality, int what) throws IndexOutOfBoundsException, NoSuchElementException {
        checkKey(key);
        checkReality(reality);
        checkWhat(what, 3);
        int x = Net.pointX(key, reality);
        int y = Net.pointY(key, reality);
        if (what == 2) {
            return now.spaces[reality].nodeAt(x, y);
        }
        return what == 0 ? x : y;
    }

    public int way(int node, int reality, int x, int y, int k)
            throws IndexOutOfBoundsException, IllegalArgumentException, IllegalStateException {
        checkNode(node);
        checkReality(reality);
        checkCell(x, y);
        checkUp(node);
        Space space = now.spaces[reality];
        walker.lookBeside(space, reality);
        walker.lookFar(space, reality, x, y);
        walker.follow(node, 1 << reality, now.nodesThatAre(UP));
        return k == NONE ? walker.hopsOrNone() : walker.nodeOfWay(k);
    }

    public int seek(int node, int key, int what)
            throws IndexOutOfBoundsException, NoSuchElementException, IllegalStateException {
        checkNode(node);
        checkKey(key);
        checkWhat(what, 5);
        checkUp(node);
        for (int r = 0; r < now.realities; r++) {
            if (now.isHeld(key, r)) {
                walker.lookBeside(now.spaces[r], r);
                walker.lookFar(now.spaces[r], r, Net.pointX(key, r), Net.pointY(key, r));
            }
        }
        walker.follow(node, now.copies[key], now.nodesThatAre(UP));
        switch (what) {
            case 0:
                return walker.hopsOrNone();
            case 1:
                return delayOfWay();
            case 2:
                return walker.lastNode();
            default:
                return stretch(delayOfWay(), now.apart(node, walker.lastNode()), what == 3);
        }
    }

    private int delayOfWay() {
        int delay = 0;
        for (int hop = 1; hop <= walker.hops; hop++) {
            delay += now.apart(walker.nodeOfWay(hop - 1), walker.nodeOfWay(hop));
        }
        return delay;
    }

    private static int stretch(int delay, int straight, boolean upper) {
        int greatest = delay;
        int rest = straight;
        for (int step = 0; step < 100 && rest != 0; step++) {
            int left = greatest % rest;
            greatest = rest;
            rest = left;
        }
        if (greatest == 0) {
            return 1;
        }
        return (upper ? delay : straight) / greatest;
    }

    public int risk(int node) throws IndexOutOfBoundsException {
        checkNode(node);
        int keys = 0;
        for (int key = 0; key < KEYS; key++) {
            if (now.isHeldByNoneBut(key, node)) {
                keys++;
            }
        }
        return keys;
    }

    public int order(int px, int py) throws IllegalArgumentException {
        if (!isPlace(px, py)) {
            throw new IllegalArgumentException("no such place");
        }
        return now.orderOf(px, py);
    }

    public int reality(int reality, int what) throws IndexOutOfBoundsException, NoSuchElementException {
        checkReality(reality);
        checkWhat(what, 6);
        switch (what) {
            case 0:
                return now.spaces[reality].zonesOfAll();
            case 1:
                return now.spaces[reality].evenOf(now.nodesThatAre(UP));
            case 2:
                return hubOf(reality);
            case 3:
                survey.walkAll(now.spaces[reality], reality, now.nodesThatAre(UP), false);
                return survey.worst;
            case 4:
                return now.spaces[reality].zonesOfTheScattered();
            default:
                return now.copiesHeldIn(reality);
        }
    }

    private int hubOf(int reality) {
        walker.lookBeside(now.spaces[reality], reality);
        int hub = NONE;
        int most = NONE;
        for (int node = 0; node < NODES; node++) {
            int others = Integer.bitCount(walker.besideIn(reality, node));
            if (now.status[node] == UP && others > most) {
                most = others;
                hub = node;
            }
        }
        return hub;
    }

    public int ways(int reality, int what) throws IndexOutOfBoundsException, NoSuchElementException {
        checkReality(reality);
        checkWhat(what, 4);
        Space space = now.spaces[reality];
        int up = now.nodesThatAre(UP);
        if (what == 3) {
            return space.firstZoneOfAny(up);
        }
        survey.walkAll(space, reality, up, what == 2);
        if (what == 2) {
            return survey.hinges;
        }
        return what == 0 ? survey.hopsTogether : survey.waysThrough;
    }

    public int friends(int node) throws IndexOutOfBoundsException {
        checkNode(node);
        int friends = (1 << NODES) - 1;
        for (int r = 0; r < now.realities; r++) {
            walker.lookBeside(now.spaces[r], r);
            friends &= walker.besideIn(r, node);
        }
        return friends;
    }

    public void image() {
        kept.copyFrom(now);
        hasImage = true;
    }

    public boolean back() {
        if (!hasImage) {
            return false;
        }
        now.copyFrom(kept);
        past.forget();
        return true;
    }

    public int count(int what) {
        switch (what) {
            case 0:
                return now.realities;
            case 1:
                return now.nodesThatAre(UP);
            case 2:
                return now.nodesThatAre(DEAD);
            case 3:
                return now.landmarks;
            case 4:
                return now.keysStored();
            case 5:
                return now.keysSafe();
            case 6:
                return now.copiesLost();
            case 7:
                return past.size;
            default:
                return NONE;
        }
    }

    // ---- what the calls refuse ----

    private static boolean isPlace(int px, int py) {
        return px >= 0 && px < PLACES && py >= 0 && py < PLACES;
    }

    private static boolean isCell(int x, int y) {
        return x >= 0 && x < SIDE && y >= 0 && y < SIDE;
    }

    private static void checkNode(int node) {
        if (node < 0 || node >= NODES) {
            throw new IndexOutOfBoundsException("no such node");
        }
    }

    private static void checkKey(int key) {
        if (key < 0 || key >= KEYS) {
            throw new IndexOutOfBoundsException("no such key");
        }
    }

    private void checkReality(int reality) {
        if (reality < 0 || reality >= now.realities) {
            throw new IndexOutOfBoundsException("no such reality");
        }
    }

    private static void checkCell(int x, int y) {
        if (!isCell(x, y)) {
            throw new IllegalArgumentException("no such cell");
        }
    }

    private static void checkWhat(int what, int bound) {
        if (what < 0 || what >= bound) {
            throw new NoSuchElementException("no such what");
        }
    }

    private void checkUp(int node) {
        if (now.status[node] != UP) {
            throw new IllegalStateException("the node is not up");
        }
    }

    /** An act and its numbers, told by a call or read from a text. */
    private static final class Act {
        final int[] numbers = new int[4];
        int kind = NET;

        void tell(int newKind, int a, int b, int c, int d) {
            kind = newKind;
            numbers[0] = a;
            numbers[1] = b;
            numbers[2] = c;
            numbers[3] = d;
        }
    }

    /** Bytes that wait to be read. */
    private static final class Tape {
        final byte[] bytes = new byte[TAPE_BYTES];
        int length = 0;

        void append(int number) {
            for (int shift = 24; shift >= 0 && length < TAPE_BYTES; shift -= 8) {
                bytes[length] = (byte) (number >> shift);
                length++;
            }
        }
    }

    /** Reads acts from the tape; where a thing cannot stand, it stays at that thing's begin. */
    private static final class Reader {
        final Tape tape;
        int at = 0;
        int firstWord = 0;
        int acts = 0;
        boolean wrong = false;

        Reader(Tape tape) {
            this.tape = tape;
        }

        void begin() {
            at = 0;
            firstWord = 0;
            acts = 0;
            wrong = false;
        }

        /** The next act, if the text has one that can be read; else the text is wrong, or at its end. */
        boolean takeAct(Act act) {
            skipBlanks();
            if (at >= tape.length) {
                return false;
            }
            wrong = acts > 0 && !takeSemicolon();
            if (wrong) {
                return false;
            }
            skipBlanks();
            firstWord = at;
            wrong = acts >= ACTS_OF_A_TEXT || !takeKind(act) || !takeNumbers(act);
            acts++;
            return !wrong;
        }

        private boolean takeKind(Act act) {
            int kind = takeWord("net") ? NET
                : takeWord("landmark") ? LANDMARK
                : takeWord("join") ? JOIN
                : takeWord("leave") ? LEAVE
                : takeWord("crash") ? CRASH
                : takeWord("notice") ? NOTICE
                : takeWord("tidy") ? TIDY
                : takeWord("put") ? PUT
                : takeWord("cut") ? CUT
                : takeWord("mend") ? MEND
                : NONE;
            act.tell(kind, 0, 0, 0, 0);
            return kind != NONE;
        }

        private boolean takeNumbers(Act act) {
            switch (act.kind) {
                case NET:
                    return takeNumber(act, 0, 1, REALITIES);
                case LANDMARK:
                    return takeNumber(act, 0, 0, PLACES - 1) && takeNumber(act, 1, 0, PLACES - 1);
                case JOIN:
                    return takeNumber(act, 0, 0, PLACES - 1) && takeNumber(act, 1, 0, PLACES - 1) && takeAim(act);
                case LEAVE:
                case CRASH:
                case NOTICE:
                    return takeNumber(act, 0, 0, NODES - 1);
                case PUT:
                    return takeNumber(act, 0, 0, KEYS - 1) && takeNumber(act, 1, 0, VALUES - 1);
                case CUT:
                    return takeNumber(act, 0, 0, KEYS - 1);
                default:
                    return true;
            }
        }

        private boolean takeAim(Act act) {
            if (takeWord("near")) {
                act.kind = JOIN_NEAR;
                return true;
            }
            return takeWord("at") && takeNumber(act, 2, 0, SIDE - 1) && takeNumber(act, 3, 0, SIDE - 1);
        }

        private boolean takeNumber(Act act, int slot, int least, int most) {
            skipBlanks();
            int stop = at;
            int value = 0;
            while (stop < tape.length && isBetween(stop, '0', '9')) {
                // Only three digits can be right, and more of them must not overflow.
                if (stop < at + 3) {
                    value = value * 10 + (tape.bytes[stop] - '0');
                }
                stop++;
            }
            int digits = stop - at;
            if (digits < 1 || digits > 3 || value < least || value > most) {
                return false;
            }
            if (slot >= 0 && slot < act.numbers.length) {
                act.numbers[slot] = value;
            }
            at = stop;
            return true;
        }

        private boolean takeWord(String word) {
            skipBlanks();
            int stop = at + word.length();
            if (stop > tape.length || isBetween(stop, 'a', 'z')) {
                return false;
            }
            for (int i = 0; i < word.length(); i++) {
                if (!isBetween(at + i, word.charAt(i), word.charAt(i))) {
                    return false;
                }
            }
            at = stop;
            return true;
        }

        private boolean takeSemicolon() {
            if (!isBetween(at, ';', ';')) {
                return false;
            }
            at++;
            return true;
        }

        private void skipBlanks() {
            while (at < tape.length && isBetween(at, ' ', ' ')) {
                at++;
            }
        }

        private boolean isBetween(int place, char first, char last) {
            return place >= 0 && place < tape.length && tape.bytes[place] >= first && tape.bytes[place] <= last;
        }
    }

    /** The nets as they were ahead of the latest acts by calls, the oldest forgotten first. */
    private static final class Past {
        final Net[] nets = new Net[REMEMBERED];
        int first = 0;
        int size = 0;

        Past() {
            for (int i = 0; i < REMEMBERED; i++) {
                nets[i] = new Net();
            }
        }

        void keep(Net net) {
            nets[(first + size) % REMEMBERED].copyFrom(net);
            if (size < REMEMBERED) {
                size++;
            } else {
                first = (first + 1) % REMEMBERED;
            }
        }

        void takeBack(Net net) {
            if (size > 0) {
                size--;
                net.copyFrom(nets[(first + size) % REMEMBERED]);
            }
        }

        void forget() {
            size = 0;
        }
    }

    /** All that acts change: realities, nodes, landmarks and keys. */
    private static final class Net {
        final Space[] spaces = new Space[REALITIES];
        final int[] status = new int[NODES];
        final int[] placeX = new int[NODES];
        final int[] placeY = new int[NODES];
        final int[] landmarkX = new int[LANDMARKS];
        final int[] landmarkY = new int[LANDMARKS];
        /** Of each key its value; NONE of one that is not stored. */
        final int[] value = new int[KEYS];
        /** Of each key the realities in which it is held, as bits. */
        final int[] copies = new int[KEYS];
        int landmarks = 0;
        int realities = 1;

        Net() {
            for (int r = 0; r < REALITIES; r++) {
                spaces[r] = new Space();
            }
            Arrays.fill(value, NONE);
        }

        /** Spaces that the other does not use stay as they are: only startAnew, which clears them, brings them in. */
        void copyFrom(Net other) {
            realities = other.realities;
            landmarks = other.landmarks;
            for (int r = 0; r < realities; r++) {
                spaces[r].copyFrom(other.spaces[r]);
            }
            System.arraycopy(other.status, 0, status, 0, NODES);
            System.arraycopy(other.placeX, 0, placeX, 0, NODES);
            System.arraycopy(other.placeY, 0, placeY, 0, NODES);
            System.arraycopy(other.landmarkX, 0, landmarkX, 0, LANDMARKS);
            System.arraycopy(other.landmarkY, 0, landmarkY, 0, LANDMARKS);
            System.arraycopy(other.value, 0, value, 0, KEYS);
            System.arraycopy(other.copies, 0, copies, 0, KEYS);
        }

        /** The number by which the act is refused; DONE, if it can be done. */
        int refusalOf(Act act) {
            int[] n = act.numbers;
            switch (act.kind) {
                case LANDMARK:
                    return landmarks < LANDMARKS ? DONE : LANDMARKS_FULL;
                case JOIN:
                    return refusalOfJoin(n[2], n[3]);
                case JOIN_NEAR:
                    return refusalOfJoin(nearX(n[0], n[1]), nearY(n[0], n[1]));
                case LEAVE:
                    return status[n[0]] != UP ? NOT_UP : refusalOfHanding(n[0]);
                case CRASH:
                    return status[n[0]] != UP ? NOT_UP : DONE;
                case NOTICE:
                    return status[n[0]] != DEAD ? NOT_DEAD : refusalOfHanding(n[0]);
                case TIDY:
                    return nodesThatAre(DEAD) != 0 ? SOME_DEAD : DONE;
                case PUT:
                    return realitiesWithin(n[0]) == 0 ? HELD_NOWHERE : DONE;
                case CUT:
                    return value[n[0]] == NONE ? NOT_STORED : DONE;
                default:
                    return DONE;
            }
        }

        private int refusalOfJoin(int x, int y) {
            if (leastNodeAway() == NONE) {
                return NO_NODE_AWAY;
            }
            for (int r = 0; r < realities; r++) {
                if (spaces[r].zoneAt(x + 11 * r, y + 7 * r) >= CELLS) {
                    return ZONE_TOO_DEEP;
                }
            }
            for (int r = 0; r < realities; r++) {
                int node = spaces[r].nodeAt(x + 11 * r, y + 7 * r);
                if (node != NONE && status[node] == DEAD) {
                    return ZONE_OF_THE_DEAD;
                }
            }
            return DONE;
        }

        private int refusalOfHanding(int node) {
            int others = (nodesThatAre(UP) | nodesThatAre(DEAD)) & ~(1 << node);
            return others != 0 && (others & nodesThatAre(UP)) == 0 ? NOBODY_TO_TAKE : DONE;
        }

        /** Does an act that is not refused: what its call answers. */
        int perform(Act act) {
            int[] n = act.numbers;
            switch (act.kind) {
                case NET:
                    return startAnew(n[0]);
                case LANDMARK:
                    return addLandmark(n[0], n[1]);
                case JOIN:
                    return letIn(n[0], n[1], n[2], n[3]);
                case JOIN_NEAR:
                    return letIn(n[0], n[1], nearX(n[0], n[1]), nearY(n[0], n[1]));
                case LEAVE:
                case NOTICE:
                    return letGo(n[0]);
                case CRASH:
                    return letDie(n[0]);
                case TIDY:
                    return tidyAll();
                case PUT:
                    value[n[0]] = n[1];
                    copies[n[0]] = realitiesWithin(n[0]);
                    return copies[n[0]];
                case CUT:
                    return cutOut(n[0]);
                default:
                    return mendAll();
            }
        }

        private int startAnew(int newRealities) {
            realities = newRealities;
            landmarks = 0;
            for (int r = 0; r < REALITIES; r++) {
                spaces[r].clear();
            }
            Arrays.fill(status, AWAY);
            Arrays.fill(value, NONE);
            Arrays.fill(copies, 0);
            return realities;
        }

        private int addLandmark(int px, int py) {
            if (landmarks < LANDMARKS) {
                landmarkX[landmarks] = px;
                landmarkY[landmarks] = py;
                landmarks++;
            }
            return landmarks;
        }

        private int letIn(int px, int py, int x, int y) {
            int node = leastNodeAway();
            if (node == NONE) {
                return NONE;
            }
            status[node] = UP;
            placeX[node] = px;
            placeY[node] = py;
            for (int r = 0; r < realities; r++) {
                spaces[r].split(x + 11 * r, y + 7 * r, node);
            }
            return node;
        }

        private int letGo(int node) {
            status[node] = AWAY;
            int up = nodesThatAre(UP);
            for (int r = 0; r < realities; r++) {
                if (up == 0) {
                    spaces[r].clear();
                } else {
                    spaces[r].handAll(node, up);
                }
            }
            if (up == 0) {
                Arrays.fill(copies, 0);
            }
            return Integer.bitCount(up);
        }

        private int letDie(int node) {
            status[node] = DEAD;
            for (int key = 0; key < KEYS; key++) {
                for (int r = 0; r < realities; r++) {
                    if (isHeldBy(key, r, node)) {
                        copies[key] &= ~(1 << r);
                    }
                }
            }
            return Integer.bitCount(nodesThatAre(UP));
        }

        private int tidyAll() {
            int fewer = 0;
            for (int r = 0; r < realities; r++) {
                fewer += spaces[r].zonesOfAll();
                spaces[r].tidyUp();
                fewer -= spaces[r].zonesOfAll();
            }
            return fewer;
        }

        private int cutOut(int key) {
            int had = value[key];
            value[key] = NONE;
            copies[key] = 0;
            return had;
        }

        private int mendAll() {
            int mended = 0;
            for (int key = 0; key < KEYS; key++) {
                if (copies[key] != 0) {
                    int lost = realitiesWithin(key) & ~copies[key];
                    copies[key] |= lost;
                    mended += Integer.bitCount(lost);
                }
            }
            return mended;
        }

        private int leastNodeAway() {
            for (int node = 0; node < NODES; node++) {
                if (status[node] == AWAY) {
                    return node;
                }
            }
            return NONE;
        }

        int nodesThatAre(int wanted) {
            int nodes = 0;
            for (int node = 0; node < NODES; node++) {
                if (status[node] == wanted) {
                    nodes |= 1 << node;
                }
            }
            return nodes;
        }

        /** How far the places of two nodes are apart. */
        int apart(int one, int other) {
            if (one < 0 || one >= NODES || other < 0 || other >= NODES) {
                return 0;
            }
            return Math.abs(placeX[one] - placeX[other]) + Math.abs(placeY[one] - placeY[other]);
        }

        // -- landmarks --

        int nearX(int px, int py) {
            int orders = landmarks == LANDMARKS ? 6 : landmarks == 2 ? 2 : 1;
            return SIDE / orders * orderOf(px, py);
        }

        int nearY(int px, int py) {
            return (px + py) & ROUND;
        }

        int orderOf(int px, int py) {
            if (landmarks < 2) {
                return 0;
            }
            int first = landmarkInOrder(0, px, py);
            if (landmarks == 2) {
                return first;
            }
            return 2 * first + (landmarkInOrder(1, px, py) > landmarkInOrder(2, px, py) ? 1 : 0);
        }

        /** The landmark ahead of which there are as many as told. */
        private int landmarkInOrder(int place, int px, int py) {
            for (int mark = 0; mark < landmarks; mark++) {
                int nearer = 0;
                for (int other = 0; other < landmarks; other++) {
                    int gap = awayFrom(other, px, py) - awayFrom(mark, px, py);
                    if (gap < 0 || gap == 0 && other < mark) {
                        nearer++;
                    }
                }
                if (nearer == place) {
                    return mark;
                }
            }
            return 0;
        }

        private int awayFrom(int mark, int px, int py) {
            return Math.abs(landmarkX[mark] - px) + Math.abs(landmarkY[mark] - py);
        }

        // -- keys --

        private static int pointOf(int key, int reality) {
            return (key + 1) * (397 + 214 * reality) & (CELLS - 1);
        }

        static int pointX(int key, int reality) {
            return pointOf(key, reality) & ROUND;
        }

        static int pointY(int key, int reality) {
            return pointOf(key, reality) / SIDE;
        }

        /** The realities in which the key's point is in a zone of a node that is up, as bits. */
        private int realitiesWithin(int key) {
            int within = 0;
            for (int r = 0; r < realities; r++) {
                int node = spaces[r].nodeAt(pointX(key, r), pointY(key, r));
                if (node != NONE && status[node] == UP) {
                    within |= 1 << r;
                }
            }
            return within;
        }

        boolean isHeld(int key, int reality) {
            return (copies[key] >> reality & 1) != 0;
        }

        private boolean isHeldBy(int key, int reality, int node) {
            return isHeld(key, reality) && spaces[reality].nodeAt(pointX(key, reality), pointY(key, reality)) == node;
        }

        boolean isHeldByNoneBut(int key, int node) {
            for (int r = 0; r < realities; r++) {
                if (isHeld(key, r) && !isHeldBy(key, r, node)) {
                    return false;
                }
            }
            return copies[key] != 0;
        }

        int loadOf(int node, int reality) {
            int load = 0;
            for (int key = 0; key < KEYS; key++) {
                if (isHeldBy(key, reality, node)) {
                    load++;
                }
            }
            return load;
        }

        int copiesHeldIn(int reality) {
            int copiesThere = 0;
            for (int key = 0; key < KEYS; key++) {
                if (isHeld(key, reality)) {
                    copiesThere++;
                }
            }
            return copiesThere;
        }

        int keysStored() {
            int keys = 0;
            for (int key = 0; key < KEYS; key++) {
                if (value[key] != NONE) {
                    keys++;
                }
            }
            return keys;
        }

        int keysSafe() {
            int everywhere = (1 << realities) - 1;
            int keys = 0;
            for (int key = 0; key < KEYS; key++) {
                if (copies[key] == everywhere) {
                    keys++;
                }
            }
            return keys;
        }

        int copiesLost() {
            int lost = keysStored() * realities;
            for (int key = 0; key < KEYS; key++) {
                lost -= Integer.bitCount(copies[key]);
            }
            return lost;
        }
    }

    /** The zones of one reality: which node has which. */
    private static final class Space {
        /** Of each zone number the node that has it and 1, together; 0 where nobody has it, and of number 0. */
        final int[] owner = new int[ZONE_NUMBERS];
        /** Of each node the cells of its zones, and how many zones these are. */
        final int[] volume = new int[NODES];
        final int[] pieces = new int[NODES];

        void clear() {
            Arrays.fill(owner, 0);
            Arrays.fill(volume, 0);
            Arrays.fill(pieces, 0);
        }

        void copyFrom(Space other) {
            System.arraycopy(other.owner, 0, owner, 0, ZONE_NUMBERS);
            System.arraycopy(other.volume, 0, volume, 0, NODES);
            System.arraycopy(other.pieces, 0, pieces, 0, NODES);
        }

        // -- where a zone number lies --

        static int depthOf(int zone) {
            for (int depth = 0; depth < DEEPEST; depth++) {
                if (zone >> depth <= 1) {
                    return depth;
                }
            }
            return DEEPEST;
        }

        static int wide(int depth) {
            return SIDE >> (depth + 1) / 2;
        }

        static int high(int depth) {
            return SIDE >> depth / 2;
        }

        static int leastX(int zone, int depth) {
            return everyOtherBit(zone << DEEPEST - depth >> 1);
        }

        static int leastY(int zone, int depth) {
            return everyOtherBit(zone << DEEPEST - depth);
        }

        /** Undoes SPREAD. */
        private static int everyOtherBit(int spread) {
            int bits = spread & 0x155;
            bits = (bits | bits >> 1) & 0x133;
            bits = (bits | bits >> 2) & 0x10F;
            return (bits | bits >> 4) & 0x1F;
        }

        /** The zone of a cell, going round; 0 where nobody has one. */
        int zoneAt(int x, int y) {
            int cell = CELLS | SPREAD[x & ROUND] << 1 | SPREAD[y & ROUND];
            for (int up = DEEPEST; up >= 0; up--) {
                if (owner[cell >> up] != 0) {
                    return cell >> up;
                }
            }
            return 0;
        }

        int nodeAt(int x, int y) {
            return owner[zoneAt(x, y)] - 1;
        }

        // -- who has what --

        int zonesOfAll() {
            int zones = 0;
            for (int node = 0; node < NODES; node++) {
                zones += pieces[node];
            }
            return zones;
        }

        int zonesOfTheScattered() {
            int zones = 0;
            for (int node = 0; node < NODES; node++) {
                zones += pieces[node] > 1 ? pieces[node] : 0;
            }
            return zones;
        }

        /** The k-th zone of a node by numbers; NONE without. */
        int zoneOf(int node, int k) {
            if (k < 0 || k >= pieces[node]) {
                return NONE;
            }
            int ahead = 0;
            for (int zone = 1; zone < ZONE_NUMBERS; zone++) {
                if (owner[zone] == node + 1) {
                    if (ahead == k) {
                        return zone;
                    }
                    ahead++;
                }
            }
            return NONE;
        }

        int firstZoneOfAny(int nodes) {
            for (int zone = 1; zone < ZONE_NUMBERS && nodes != 0; zone++) {
                if ((nodes << 1 >> owner[zone] & 1) != 0) {
                    return zone;
                }
            }
            return NONE;
        }

        int evenOf(int nodes) {
            if (nodes == 0) {
                return NONE;
            }
            int most = 0;
            int least = CELLS;
            for (int node = 0; node < NODES; node++) {
                if ((nodes >> node & 1) != 0) {
                    most = Math.max(most, volume[node]);
                    least = Math.min(least, volume[node]);
                }
            }
            return most - least;
        }

        /** The nodes that have cells side by side with a zone, as bits; maybe also who has it. */
        int besideOf(int zone) {
            int depth = depthOf(zone);
            int wide = wide(depth);
            int high = high(depth);
            int x = leastX(zone, depth);
            int y = leastY(zone, depth);
            int owners = 0;
            for (int i = 0; i < wide; i++) {
                owners |= 1 << owner[zoneAt(x + i, y - 1)];
                owners |= 1 << owner[zoneAt(x + i, y + high)];
            }
            for (int i = 0; i < high; i++) {
                owners |= 1 << owner[zoneAt(x - 1, y + i)];
                owners |= 1 << owner[zoneAt(x + wide, y + i)];
            }
            return owners >> 1;
        }

        // -- zones that change hands --

        /** The half of the zone at a point goes to a node; all goes to the first one. */
        void split(int x, int y, int node) {
            int zone = zoneAt(x, y);
            if (zone == 0) {
                give(1, node);
            } else if (zone < CELLS) {
                pieces[owner[zone] - 1]++;
                owner[2 * zone] = owner[zone];
                owner[2 * zone + 1] = owner[zone];
                owner[zone] = 0;
                give(zoneAt(x, y), node);
            }
        }

        /** A node gets a zone, from whoever had it, and halves that are then both its own merge. */
        void give(int zone, int node) {
            int size = CELLS >> depthOf(zone);
            int had = owner[zone] - 1;
            if (had >= 0) {
                volume[had] -= size;
                pieces[had]--;
            }
            volume[node] += size;
            pieces[node]++;
            owner[zone] = node + 1;
            int whole = zone;
            for (int step = 0; step < DEEPEST && whole > 1 && owner[whole ^ 1] == node + 1; step++) {
                owner[whole] = 0;
                owner[whole ^ 1] = 0;
                whole >>= 1;
                owner[whole] = node + 1;
                pieces[node]--;
            }
        }

        /** All zones of a node are handed to nodes that are up. */
        void handAll(int node, int up) {
            int left = pieces[node];
            for (int zone = 1; zone < ZONE_NUMBERS && left > 0; zone++) {
                if (owner[zone] == node + 1) {
                    left--;
                    int heir = heirOf(zone, up);
                    if (heir != NONE) {
                        give(zone, heir);
                    }
                }
            }
        }

        /** Who of those that are up gets a zone that is handed; NONE without anybody. */
        int heirOf(int zone, int up) {
            int other = owner[zone ^ 1] - 1;
            if (other >= 0 && (up >> other & 1) != 0) {
                return other;
            }
            int beside = besideOf(zone) & up;
            return leastOf(beside != 0 ? beside : up);
        }

        private int leastOf(int nodes) {
            int least = NONE;
            for (int node = 0; node < NODES; node++) {
                if ((nodes >> node & 1) != 0 && (least == NONE || volume[node] < volume[least])) {
                    least = node;
                }
            }
            return least;
        }

        /** Each turn makes the zones fewer, so there are never more turns than cells. */
        void tidyUp() {
            for (int turn = 0; turn < CELLS; turn++) {
                int node = leastScattered();
                if (node == NONE) {
                    return;
                }
                moveStray(zoneOf(node, pieces[node] - 1));
            }
        }

        private int leastScattered() {
            for (int node = 0; node < NODES; node++) {
                if (pieces[node] > 1) {
                    return node;
                }
            }
            return NONE;
        }

        private void moveStray(int stray) {
            if (stray < 2) {
                return;
            }
            int other = stray ^ 1;
            if (owner[other] != 0) {
                give(stray, owner[other] - 1);
                return;
            }
            int pair = deepestPair(other);
            if (pair == NONE) {
                return;
            }
            int merger = owner[2 * pair] - 1;
            int spared = owner[2 * pair + 1] - 1;
            give(2 * pair + 1, merger);
            give(stray, spared);
        }

        /** The deepest zone within a zone, of several the least, whose both halves nodes have. */
        private int deepestPair(int within) {
            int depth = depthOf(within);
            for (int deeper = DEEPEST - 1 - depth; deeper >= 0; deeper--) {
                int first = within << deeper;
                for (int pair = first; pair < first + (1 << deeper); pair++) {
                    if (owner[2 * pair] != 0 && owner[2 * pair + 1] != 0) {
                        return pair;
                    }
                }
            }
            return NONE;
        }
    }

    /** Goes ways from node to node, in one reality or in several at once. */
    private static final class Walker {
        /** Farther than any cell is. */
        static final int FARTHEST = 2 * SIDE;

        /** By reality and node: the nodes beside it, as bits, and how far it is from the point there. */
        final int[] beside = new int[REALITIES * NODES];
        final int[] far = new int[REALITIES * NODES];
        final int[] path = new int[NODES + 1];
        int hops = 0;
        boolean stuck = false;

        void lookBeside(Space space, int reality) {
            int row = reality * NODES;
            for (int node = 0; node < NODES; node++) {
                beside[row + node] = 0;
            }
            int left = space.zonesOfAll();
            for (int zone = 1; zone < ZONE_NUMBERS && left > 0; zone++) {
                int node = space.owner[zone] - 1;
                if (node >= 0) {
                    left--;
                    beside[row + node] |= space.besideOf(zone) & ~(1 << node);
                }
            }
        }

        void lookFar(Space space, int reality, int x, int y) {
            int row = reality * NODES;
            for (int node = 0; node < NODES; node++) {
                far[row + node] = FARTHEST;
            }
            int left = space.zonesOfAll();
            for (int zone = 1; zone < ZONE_NUMBERS && left > 0; zone++) {
                int node = space.owner[zone] - 1;
                if (node >= 0) {
                    left--;
                    int depth = Space.depthOf(zone);
                    int steps = stepsTo(x, Space.leastX(zone, depth), Space.wide(depth))
                        + stepsTo(y, Space.leastY(zone, depth), Space.high(depth));
                    far[row + node] = Math.min(far[row + node], steps);
                }
            }
        }

        /** The fewest steps, going round, from a number to one of those from the first on. */
        private static int stepsTo(int from, int first, int many) {
            if ((from - first & ROUND) < many) {
                return 0;
            }
            return Math.min(first - from & ROUND, from - (first + many - 1) & ROUND);
        }

        int besideIn(int reality, int node) {
            return beside[reality * NODES + node];
        }

        /** Goes the way by what was looked at in the realities told, over nodes that are up. */
        void follow(int start, int realities, int up) {
            hops = 0;
            stuck = false;
            path[0] = start;
            // Each node is nearer than the one ahead of it, so none comes twice.
            for (int step = 0; step < NODES; step++) {
                int here = path[hops];
                int least = FARTHEST;
                for (int r = 0; r < REALITIES; r++) {
                    if ((realities >> r & 1) != 0) {
                        least = Math.min(least, far[r * NODES + here]);
                    }
                }
                if (least == 0) {
                    return;
                }
                int next = nodeNearerThan(least, here, realities, up);
                if (next == NONE) {
                    stuck = true;
                    return;
                }
                hops++;
                path[hops] = next;
            }
        }

        private int nodeNearerThan(int bound, int here, int realities, int up) {
            int least = bound;
            int next = NONE;
            for (int r = 0; r < REALITIES; r++) {
                int others = (realities >> r & 1) != 0 ? beside[r * NODES + here] & up : 0;
                for (int node = 0; node < NODES; node++) {
                    if ((others >> node & 1) != 0 && far[r * NODES + node] < least) {
                        least = far[r * NODES + node];
                        next = node;
                    }
                }
            }
            return next;
        }

        int hopsOrNone() {
            return stuck ? NONE : hops;
        }

        int nodeOfWay(int k) {
            return k >= 0 && k <= hops ? path[k] : NONE;
        }

        int lastNode() {
            return path[hops];
        }

        /** The nodes between the first and the last one, as bits. */
        int nodesBetween() {
            int nodes = 0;
            for (int hop = 1; hop < hops; hop++) {
                nodes |= 1 << path[hop];
            }
            return nodes;
        }
    }

    /** All ways of one reality between nodes that are up. */
    private static final class Survey {
        final Walker walker;
        int hopsTogether = 0;
        int waysThrough = 0;
        int worst = NONE;
        int hinges = 0;

        Survey(Walker walker) {
            this.walker = walker;
        }

        void walkAll(Space space, int reality, int up, boolean findHinges) {
            hopsTogether = 0;
            waysThrough = 0;
            worst = NONE;
            hinges = 0;
            walker.lookBeside(space, reality);
            for (int last = 0; last < NODES; last++) {
                int zone = (up >> last & 1) != 0 ? space.zoneOf(last, 0) : NONE;
                if (zone != NONE) {
                    int depth = Space.depthOf(zone);
                    walker.lookFar(space, reality, Space.leastX(zone, depth), Space.leastY(zone, depth));
                    walkTo(last, 1 << reality, up, findHinges);
                }
            }
        }

        private void walkTo(int last, int realities, int up, boolean findHinges) {
            for (int first = 0; first < NODES; first++) {
                if (first != last && (up >> first & 1) != 0) {
                    walker.follow(first, realities, up);
                    if (!walker.stuck) {
                        hopsTogether += walker.hops;
                        waysThrough++;
                        worst = Math.max(worst, walker.hops);
                        if (findHinges) {
                            addHinges(first, realities, up);
                        }
                    }
                }
            }
        }

        /** A way stays as it is without a node that is not on it, so only those on it are tried. */
        private void addHinges(int first, int realities, int up) {
            int between = walker.nodesBetween() & ~hinges;
            for (int node = 0; node < NODES; node++) {
                if ((between >> node & 1) != 0) {
                    walker.follow(first, realities, up & ~(1 << node));
                    hinges |= walker.stuck ? 1 << node : 0;
                }
            }
        }
    }
}
