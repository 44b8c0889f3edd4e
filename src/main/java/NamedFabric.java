/** Fabrics of switches that name themselves, as the document's promises 1 to 25 tell it. */
public final class NamedFabric {
    public static final int BAD = -1, STATE = -2, FULL = -3, NONE = -9;

    private static final int MAX_SWITCHES = 6, MAX_HOSTS = 8, ZONE_COUNT = 4;
    private static final int MAX_PRIORITY = 9, MAX_BLOCK = 8;
    private static final int MAX_LETTERS = 100, MAX_LETTER = 255, FIRST_FAULT = -10;
    private static final int MAX_LINKS = MAX_SWITCHES * (MAX_SWITCHES - 1) / 2;
    private static final int MAX_UNDONE = 5, IMAGE_COUNT = 2, MAX_SEEN = 6;

    private final Script script;
    private final Reader reader;
    private final Net now;
    private final History history;
    private final Album album;
    private final Clues clues;
    private final Trials trials;

    public NamedFabric() {
        script = new Script();
        reader = new Reader();
        now = new Net();
        now.addSwitch(5, 0, 0);
        history = new History();
        album = new Album();
        clues = new Clues();
        trials = new Trials();
    }

    // ---- what is told

    public int type(int letter) {
        if (letter < 0 || letter > MAX_LETTER) {
            return BAD;
        }
        return script.add(letter) ? script.size() : FULL;
    }

    public int clear() {
        int had = script.size();
        script.empty();
        return had;
    }

    public int tells() {
        int fault = reader.faultOf(script);
        if (fault != NONE) {
            return FIRST_FAULT - fault;
        }
        history.remember(now);
        now.copyFrom(reader.told());
        script.empty();
        clues.empty();
        album.empty();
        return now.switchTotal() + now.hostTotal();
    }

    // ---- what is done

    public int joins(int a, int b) {
        if (!now.hasTwo(a, b)) {
            return BAD;
        }
        if (now.isUp(a, b)) {
            return STATE;
        }
        long before = rememberView();
        boolean up = now.join(a, b);
        now.noticeSince(before);
        return up ? 1 : 0;
    }

    public int cuts(int a, int b) {
        if (!now.hasTwo(a, b)) {
            return BAD;
        }
        if (now.linkState(a, b) == Net.NO_LINK) {
            return STATE;
        }
        long before = rememberView();
        now.setLink(a, b, Net.NO_LINK);
        now.noticeSince(before);
        return now.fabricTotal();
    }

    public int zones(int a, int z, int set) {
        if (!now.hasSwitch(a) || z < 0 || z >= ZONE_COUNT || set < 0 || set > now.everyHost()) {
            return BAD;
        }
        int was = now.zoneSet(a, z);
        if (was == set) {
            return STATE;
        }
        long before = rememberView();
        now.setZone(now.fabricOf(a), z, set);
        now.noticeSince(before);
        return was;
    }

    public int moves(int host, int a) {
        if (!now.hasHost(host) || a != NONE && !now.hasSwitch(a)) {
            return BAD;
        }
        int was = now.placeOf(host);
        if (was == a) {
            return STATE;
        }
        long before = rememberView();
        now.setPlace(host, a);
        now.noticeSince(before);
        return was;
    }

    public int ranks(int a, int priority) {
        if (!now.hasSwitch(a) || priority < 1 || priority > MAX_PRIORITY) {
            return BAD;
        }
        int was = now.priorityOf(a);
        if (was == priority) {
            return STATE;
        }
        history.remember(now);
        now.setPriority(a, priority);
        return was;
    }

    public int renews(int a) {
        if (!now.hasSwitch(a)) {
            return BAD;
        }
        history.remember(now);
        return now.handOut(now.fabricOf(a));
    }

    public int allows(int is) {
        if (is < 0 || is > 1) {
            return BAD;
        }
        if (now.isRenewing() == (is == 1)) {
            return STATE;
        }
        history.remember(now);
        now.setRenewing(is == 1);
        return 1;
    }

    public int undo() {
        if (history.size() == 0) {
            return STATE;
        }
        history.restoreTo(now);
        return history.size();
    }

    // ---- as it is

    public int device(int a, int what) {
        if (!now.hasSwitch(a)) {
            return BAD;
        }
        switch (what) {
            case 0: return now.priorityOf(a);
            case 1: return now.nameOf(a);
            case 2: return now.wantOf(a);
            case 3: return now.blockOf(a);
            case 4: return now.principalOf(now.fabricOf(a));
            case 5: return now.farOf(a);
            case 6: return now.fabricOf(a);
            case 7: return now.hostsAt(1 << a);
            default: return BAD;
        }
    }

    public int link(int a, int b) {
        return now.hasTwo(a, b) ? now.linkState(a, b) : BAD;
    }

    public int zone(int a, int z) {
        if (!now.hasSwitch(a) || z < 0 || z >= ZONE_COUNT) {
            return BAD;
        }
        return now.zoneSet(a, z);
    }

    public int host(int h, int what) {
        if (!now.hasHost(h)) {
            return BAD;
        }
        switch (what) {
            case 0: return now.placeOf(h);
            case 1: return rowOf(now.view(), h);
            case 2: return now.noticesOf(h);
            case 3: return now.newsOf(h);
            default: return BAD;
        }
    }

    // ---- what would be

    public int would(int a, int b) {
        if (!now.hasTwo(a, b)) {
            return BAD;
        }
        return now.isUp(a, b) ? STATE : now.outcomeOf(a, b);
    }

    public int weakest(int what) {
        if (what < 0 || what > 1) {
            return BAD;
        }
        trials.cutEach(now);
        if (trials.size() == 0) {
            return NONE;
        }
        long before = now.view();
        int place = trials.dearest(before);
        return what == 0 ? trials.codeAt(place) : trials.lostAt(place, before);
    }

    // ---- which link

    public int sees(int g, int h, int is) {
        if (g < 0 || g >= MAX_HOSTS || h < 0 || h >= MAX_HOSTS || g == h || is < 0 || is > 1) {
            return BAD;
        }
        return clues.add(g, h, is == 1) ? clues.size() : FULL;
    }

    public int forget() {
        int was = clues.size();
        clues.empty();
        return was;
    }

    public int which(int what) {
        if (what < 0 || what > 1) {
            return BAD;
        }
        trials.cutEach(now);
        trials.dropUnfit(clues, now.everyHost());
        if (what == 0) {
            return trials.size();
        }
        return trials.size() == 0 ? NONE : trials.codeAt(0);
    }

    public int ask() {
        trials.cutEach(now);
        trials.dropUnfit(clues, now.everyHost());
        return trials.size() < 2 ? NONE : trials.bestQuestion(now.hostTotal());
    }

    // ---- images

    public int keep(int image) {
        if (image < 0 || image >= IMAGE_COUNT) {
            return BAD;
        }
        album.store(image, now);
        return now.fabricTotal();
    }

    public int back(int image) {
        if (image < 0 || image >= IMAGE_COUNT) {
            return BAD;
        }
        if (!album.holds(image)) {
            return STATE;
        }
        album.restoreTo(image, now);
        history.empty();
        return now.fabricTotal();
    }

    public int count(int what) {
        switch (what) {
            case 0: return now.switchTotal();
            case 1: return now.hostTotal();
            case 2: return now.fabricTotal();
            case 3: return now.linkTotal(Net.UP);
            case 4: return now.linkTotal(Net.CLASHED);
            case 5: return now.isRenewing() ? 1 : 0;
            case 6: return now.noticeTotal();
            case 7: return twosOf(now.view());
            case 8: return clues.size();
            case 9: return script.size();
            case 10: return history.size();
            default: return BAD;
        }
    }

    private long rememberView() {
        history.remember(now);
        return now.view();
    }

    // A view is who sees whom: bit 8 g + h is set where host g sees host h.

    private static long viewBit(int g, int h) {
        return 1L << (MAX_HOSTS * g + h);
    }

    private static int rowOf(long view, int g) {
        return (int) (view >>> (MAX_HOSTS * g)) & ((1 << MAX_HOSTS) - 1);
    }

    /** Seeing is mutual, so each two of hosts stands in a view twice. */
    private static int twosOf(long view) {
        return Long.bitCount(view) / 2;
    }

    private static boolean has(int set, int member) {
        return (set >> member & 1) != 0;
    }

    /** All that parts 1 and 2 of the document tell, but for the text. */
    private static final class Net {
        static final int NO_LINK = 0, UP = 1, CLASHED = 2;
        static final int WITHIN = 0, FREE = 1, HANDS_OUT = 2;
        static final int BLOCKS_CLASH = 3, ZONES_CLASH = 4, BOTH_CLASH = 5;

        private int switches;
        private int hosts;
        private boolean renewing;
        private final int[] priorities = new int[MAX_SWITCHES];
        private final int[] names = new int[MAX_SWITCHES];
        private final int[] wants = new int[MAX_SWITCHES];
        private final int[] blocks = new int[MAX_SWITCHES];
        // Of each switch the set of those that a link of that sort leads to.
        private final int[] upTo = new int[MAX_SWITCHES];
        private final int[] clashedTo = new int[MAX_SWITCHES];
        // Each switch knows the zones of its fabric, so that a cut leaves them on both sides.
        private final int[] zoneSets = new int[MAX_SWITCHES * ZONE_COUNT];
        private final int[] places = new int[MAX_HOSTS];
        private final int[] notices = new int[MAX_HOSTS];
        private final int[] news = new int[MAX_HOSTS];

        void empty() {
            switches = 0;
            hosts = 0;
            renewing = false;
        }

        void copyFrom(Net other) {
            switches = other.switches;
            hosts = other.hosts;
            renewing = other.renewing;
            copyRow(other.priorities, priorities);
            copyRow(other.names, names);
            copyRow(other.wants, wants);
            copyRow(other.blocks, blocks);
            copyRow(other.upTo, upTo);
            copyRow(other.clashedTo, clashedTo);
            copyRow(other.zoneSets, zoneSets);
            copyRow(other.places, places);
            copyRow(other.notices, notices);
            copyRow(other.news, news);
        }

        private static void copyRow(int[] from, int[] to) {
            for (int i = 0; i < from.length && i < to.length; i++) {
                to[i] = from[i];
            }
        }

        void addSwitch(int priority, int name, int want) {
            if (switches >= MAX_SWITCHES) {
                return;
            }
            priorities[switches] = priority;
            names[switches] = name;
            wants[switches] = want;
            blocks[switches] = want == 0 ? 1 : want;
            upTo[switches] = 0;
            clashedTo[switches] = 0;
            for (int z = 0; z < ZONE_COUNT; z++) {
                zoneSets[switches * ZONE_COUNT + z] = 0;
            }
            switches++;
        }

        void addHost(int place) {
            if (hosts >= MAX_HOSTS) {
                return;
            }
            places[hosts] = place;
            notices[hosts] = 0;
            news[hosts] = 0;
            hosts++;
        }

        int switchTotal() {
            return switches;
        }

        int hostTotal() {
            return hosts;
        }

        int everyHost() {
            return (1 << hosts) - 1;
        }

        boolean hasSwitch(int a) {
            return a >= 0 && a < switches;
        }

        boolean hasTwo(int a, int b) {
            return a != b && hasSwitch(a) && hasSwitch(b);
        }

        boolean hasHost(int h) {
            return h >= 0 && h < hosts;
        }

        boolean hasName(int name) {
            for (int s = 0; s < switches; s++) {
                if (names[s] == name) {
                    return true;
                }
            }
            return false;
        }

        boolean isRenewing() {
            return renewing;
        }

        void setRenewing(boolean is) {
            renewing = is;
        }

        int priorityOf(int a) {
            return hasSwitch(a) ? priorities[a] : BAD;
        }

        void setPriority(int a, int priority) {
            if (hasSwitch(a)) {
                priorities[a] = priority;
            }
        }

        int nameOf(int a) {
            return hasSwitch(a) ? names[a] : BAD;
        }

        int wantOf(int a) {
            return hasSwitch(a) ? wants[a] : BAD;
        }

        int blockOf(int a) {
            return hasSwitch(a) ? blocks[a] : BAD;
        }

        int placeOf(int h) {
            return hasHost(h) ? places[h] : NONE;
        }

        void setPlace(int h, int place) {
            if (hasHost(h)) {
                places[h] = place;
            }
        }

        int noticesOf(int h) {
            return hasHost(h) ? notices[h] : BAD;
        }

        int newsOf(int h) {
            return hasHost(h) ? news[h] : BAD;
        }

        int noticeTotal() {
            int total = 0;
            for (int h = 0; h < hosts; h++) {
                total += notices[h];
            }
            return total;
        }

        boolean isUp(int a, int b) {
            return linkState(a, b) == UP;
        }

        int linkState(int a, int b) {
            if (!hasTwo(a, b)) {
                return NO_LINK;
            }
            if (has(upTo[a], b)) {
                return UP;
            }
            return has(clashedTo[a], b) ? CLASHED : NO_LINK;
        }

        void setLink(int a, int b, int state) {
            if (!hasTwo(a, b)) {
                return;
            }
            setEnd(a, 1 << b, state);
            setEnd(b, 1 << a, state);
        }

        private void setEnd(int a, int other, int state) {
            upTo[a] = state == UP ? upTo[a] | other : upTo[a] & ~other;
            clashedTo[a] = state == CLASHED ? clashedTo[a] | other : clashedTo[a] & ~other;
        }

        int linkTotal(int state) {
            int ends = 0;
            for (int s = 0; s < switches; s++) {
                ends += Integer.bitCount(state == UP ? upTo[s] : clashedTo[s]);
            }
            return ends / 2;
        }

        /** The switches of a set, and those one link that is up away from them. */
        private int spread(int set) {
            int wider = set;
            for (int s = 0; s < switches; s++) {
                if (has(set, s)) {
                    wider |= upTo[s];
                }
            }
            return wider;
        }

        int fabricOf(int a) {
            int fabric = 1 << a;
            for (int step = 1; step < switches; step++) {
                fabric = spread(fabric);
            }
            return fabric;
        }

        int fabricTotal() {
            int total = 0;
            int met = 0;
            for (int s = 0; s < switches; s++) {
                if (!has(met, s)) {
                    met |= fabricOf(s);
                    total++;
                }
            }
            return total;
        }

        int principalOf(int fabric) {
            int best = NONE;
            for (int s = 0; s < switches; s++) {
                if (has(fabric, s) && (best == NONE || goesAhead(s, best))) {
                    best = s;
                }
            }
            return best;
        }

        private boolean goesAhead(int a, int b) {
            if (priorityOf(a) != priorityOf(b)) {
                return priorityOf(a) < priorityOf(b);
            }
            return nameOf(a) < nameOf(b);
        }

        int farOf(int a) {
            int reached = 1 << principalOf(fabricOf(a));
            int far = 0;
            while (far < switches && !has(reached, a)) {
                reached = spread(reached);
                far++;
            }
            return far;
        }

        /** Hands out the blocks of a fabric: how many of its switches have another one then. */
        int handOut(int fabric) {
            int changed = 0;
            int served = 0;
            int given = 0;
            int reached = 1 << principalOf(fabric);
            for (int turn = 0; turn < switches && served != fabric; turn++) {
                // All that are as far are served, so the next ones are one link farther.
                if (served == reached) {
                    reached = spread(reached);
                }
                int s = lowestNameOf(reached & ~served);
                int block = blockFor(s, given);
                if (blockOf(s) != block) {
                    changed++;
                }
                setBlock(s, block);
                given |= 1 << block;
                served |= 1 << s;
            }
            return changed;
        }

        private void setBlock(int a, int block) {
            if (hasSwitch(a)) {
                blocks[a] = block;
            }
        }

        private int lowestNameOf(int set) {
            int best = NONE;
            for (int s = 0; s < switches; s++) {
                if (has(set, s) && (best == NONE || names[s] < nameOf(best))) {
                    best = s;
                }
            }
            return best;
        }

        private int blockFor(int a, int given) {
            int want = wantOf(a);
            if (want > 0 && !has(given, want)) {
                return want;
            }
            int block = 1;
            while (block < MAX_BLOCK && has(given, block)) {
                block++;
            }
            return block;
        }

        private int blocksIn(int fabric) {
            int set = 0;
            for (int s = 0; s < switches; s++) {
                if (has(fabric, s)) {
                    set |= 1 << blocks[s];
                }
            }
            return set;
        }

        int zoneSet(int a, int z) {
            boolean known = a >= 0 && a < switches && z >= 0 && z < ZONE_COUNT;
            return known ? zoneSets[a * ZONE_COUNT + z] : 0;
        }

        void setZone(int fabric, int z, int set) {
            if (z < 0 || z >= ZONE_COUNT) {
                return;
            }
            for (int s = 0; s < switches; s++) {
                if (has(fabric, s)) {
                    zoneSets[s * ZONE_COUNT + z] = set;
                }
            }
        }

        private boolean zonesClash(int a, int b) {
            for (int z = 0; z < ZONE_COUNT; z++) {
                int one = zoneSet(a, z);
                int other = zoneSet(b, z);
                if (one != 0 && other != 0 && one != other) {
                    return true;
                }
            }
            return false;
        }

        /** What joining two switches would come to, by the numbers of promise 17. */
        int outcomeOf(int a, int b) {
            int fabric = fabricOf(a);
            if (has(fabric, b)) {
                return WITHIN;
            }
            boolean blocksClash = (blocksIn(fabric) & blocksIn(fabricOf(b))) != 0;
            if (zonesClash(a, b)) {
                return blocksClash ? BOTH_CLASH : ZONES_CLASH;
            }
            if (blocksClash) {
                return renewing ? HANDS_OUT : BLOCKS_CLASH;
            }
            return FREE;
        }

        /** Joins two switches: whether their link is up then. */
        boolean join(int a, int b) {
            int outcome = outcomeOf(a, b);
            if (outcome >= BLOCKS_CLASH) {
                setLink(a, b, CLASHED);
                return false;
            }
            setLink(a, b, UP);
            if (outcome != WITHIN) {
                shareZones(a, b);
            }
            if (outcome == HANDS_OUT) {
                handOut(fabricOf(a));
            }
            return true;
        }

        private void shareZones(int a, int b) {
            int fabric = fabricOf(a);
            for (int z = 0; z < ZONE_COUNT; z++) {
                setZone(fabric, z, zoneSet(a, z) | zoneSet(b, z));
            }
        }

        int hostsAt(int switchSet) {
            int set = 0;
            for (int h = 0; h < hosts; h++) {
                if (places[h] != NONE && has(switchSet, places[h])) {
                    set |= 1 << h;
                }
            }
            return set;
        }

        long view() {
            long view = 0;
            int met = 0;
            for (int s = 0; s < switches; s++) {
                if (!has(met, s)) {
                    int fabric = fabricOf(s);
                    met |= fabric;
                    view |= viewWithin(s, hostsAt(fabric));
                }
            }
            return view;
        }

        /** Who sees whom among the hosts that are at the fabric of a switch. */
        private long viewWithin(int a, int members) {
            long view = 0;
            boolean open = zonesEmpty(a);
            for (int g = 0; g < hosts; g++) {
                if (has(members, g)) {
                    int met = open ? members : members & sharingZone(a, g);
                    view |= (long) (met & ~(1 << g)) << (MAX_HOSTS * g);
                }
            }
            return view;
        }

        private boolean zonesEmpty(int a) {
            int all = 0;
            for (int z = 0; z < ZONE_COUNT; z++) {
                all |= zoneSet(a, z);
            }
            return all == 0;
        }

        private int sharingZone(int a, int g) {
            int set = 0;
            for (int z = 0; z < ZONE_COUNT; z++) {
                if (has(zoneSet(a, z), g)) {
                    set |= zoneSet(a, z);
                }
            }
            return set;
        }

        /** Who would see whom, were a link that is up cut. */
        long viewWithout(int a, int b) {
            setLink(a, b, NO_LINK);
            long view = view();
            setLink(a, b, UP);
            return view;
        }

        void noticeSince(long before) {
            long changed = before ^ view();
            for (int h = 0; h < hosts; h++) {
                int row = rowOf(changed, h);
                if (row != 0) {
                    notices[h]++;
                    news[h] = row;
                }
            }
        }
    }

    /** The text, letter by letter, and where its tokens end. */
    private static final class Script {
        private static final int BLANK = ' ';

        private final int[] letters = new int[MAX_LETTERS];
        private int size;

        boolean add(int letter) {
            if (size >= MAX_LETTERS) {
                return false;
            }
            letters[size] = letter;
            size++;
            return true;
        }

        void empty() {
            size = 0;
        }

        int size() {
            return size;
        }

        int letterAt(int place) {
            return place >= 0 && place < size ? letters[place] : BAD;
        }

        private boolean isFigure(int place) {
            return letterAt(place) >= '0' && letterAt(place) <= '9';
        }

        int skipBlanks(int from) {
            int place = from;
            while (place < size && letterAt(place) == BLANK) {
                place++;
            }
            return place;
        }

        int tokenEnd(int start) {
            int place = start + 1;
            if (isFigure(start)) {
                while (place < size && isFigure(place)) {
                    place++;
                }
            }
            return place;
        }

        /** The number that a token is; BAD if it is none, is above 99, or has a 0 ahead. */
        int numberAt(int start, int end) {
            if (!isFigure(start) || end - start > 2) {
                return BAD;
            }
            int first = letterAt(start) - '0';
            if (end - start == 1) {
                return first;
            }
            return first == 0 ? BAD : 10 * first + letterAt(start + 1) - '0';
        }
    }

    /** Reads a text into a net of its own, so that a fault leaves all else as it was. */
    private static final class Reader {
        private static final int AT_ITEM = 0, AT_PRIORITY = 1, AT_NAME = 2, AT_WANT = 3;
        private static final int AT_PLACE = 4, AT_END = 5;

        private final Net told = new Net();
        private int awaited;
        private int priority;
        private int name;

        Net told() {
            return told;
        }

        /** The place of the text's fault, or NONE. */
        int faultOf(Script script) {
            told.empty();
            awaited = AT_ITEM;
            int place = script.skipBlanks(0);
            for (int turn = 0; turn < MAX_LETTERS && place < script.size(); turn++) {
                int end = script.tokenEnd(place);
                if (!takes(script.letterAt(place), script.numberAt(place, end))) {
                    return place;
                }
                place = script.skipBlanks(end);
            }
            return awaited == AT_ITEM && told.switchTotal() > 0 ? NONE : script.size();
        }

        private boolean takes(int letter, int number) {
            switch (awaited) {
                case AT_ITEM: return takesItem(letter);
                case AT_PRIORITY: return takesPriority(number);
                case AT_NAME: return takesName(number);
                case AT_WANT: return takesWant(number);
                case AT_PLACE: return takesPlace(letter, number);
                default:
                    awaited = AT_ITEM;
                    return letter == ';';
            }
        }

        private boolean takesItem(int letter) {
            if (letter == 's') {
                awaited = AT_PRIORITY;
                return told.hostTotal() == 0 && told.switchTotal() < MAX_SWITCHES;
            }
            awaited = AT_PLACE;
            return letter == 'h' && told.switchTotal() > 0 && told.hostTotal() < MAX_HOSTS;
        }

        private boolean takesPriority(int number) {
            priority = number;
            awaited = AT_NAME;
            return number >= 1 && number <= MAX_PRIORITY;
        }

        private boolean takesName(int number) {
            name = number;
            awaited = AT_WANT;
            return number >= 0 && !told.hasName(number);
        }

        private boolean takesWant(int number) {
            if (number < 0 || number > MAX_BLOCK) {
                return false;
            }
            told.addSwitch(priority, name, number);
            awaited = AT_END;
            return true;
        }

        private boolean takesPlace(int letter, int number) {
            if (letter != '-' && !told.hasSwitch(number)) {
                return false;
            }
            told.addHost(letter == '-' ? NONE : number);
            awaited = AT_END;
            return true;
        }
    }

    /** What the latest calls found, the oldest lost first. */
    private static final class History {
        private final Net[] nets = new Net[MAX_UNDONE];
        private int oldest;
        private int size;

        History() {
            for (int i = 0; i < MAX_UNDONE; i++) {
                nets[i] = new Net();
            }
        }

        int size() {
            return size;
        }

        void empty() {
            size = 0;
        }

        void remember(Net net) {
            if (size == MAX_UNDONE) {
                oldest = (oldest + 1) % MAX_UNDONE;
                size--;
            }
            nets[(oldest + size) % MAX_UNDONE].copyFrom(net);
            size++;
        }

        void restoreTo(Net net) {
            if (size > 0) {
                size--;
                net.copyFrom(nets[(oldest + size) % MAX_UNDONE]);
            }
        }
    }

    /** The images, and which of them were kept. */
    private static final class Album {
        private final Net[] nets = new Net[IMAGE_COUNT];
        private int kept;

        Album() {
            for (int i = 0; i < IMAGE_COUNT; i++) {
                nets[i] = new Net();
            }
        }

        void empty() {
            kept = 0;
        }

        boolean holds(int image) {
            return image >= 0 && image < IMAGE_COUNT && has(kept, image);
        }

        void store(int image, Net net) {
            if (image >= 0 && image < IMAGE_COUNT) {
                nets[image].copyFrom(net);
                kept |= 1 << image;
            }
        }

        void restoreTo(int image, Net net) {
            if (holds(image)) {
                net.copyFrom(nets[image]);
            }
        }
    }

    /** What was seen, as views: all of the one must be so, none of the other. */
    private static final class Clues {
        private int size;
        private int mentioned;
        private long seen;
        private long unseen;

        int size() {
            return size;
        }

        void empty() {
            size = 0;
            mentioned = 0;
            seen = 0;
            unseen = 0;
        }

        boolean add(int g, int h, boolean is) {
            if (size >= MAX_SEEN) {
                return false;
            }
            if (is) {
                seen |= viewBit(g, h);
            } else {
                unseen |= viewBit(g, h);
            }
            mentioned |= 1 << g | 1 << h;
            size++;
            return true;
        }

        boolean fit(long view, int everyHost) {
            return (mentioned & ~everyHost) == 0 && (view & seen) == seen && (view & unseen) == 0;
        }
    }

    /** Links that are up, in order, each with the view that there would be were it cut. */
    private static final class Trials {
        private final int[] codes = new int[MAX_LINKS];
        private final long[] views = new long[MAX_LINKS];
        private int size;

        int size() {
            return size;
        }

        int codeAt(int place) {
            return place >= 0 && place < size ? codes[place] : NONE;
        }

        void cutEach(Net net) {
            size = 0;
            for (int a = 0; a < net.switchTotal(); a++) {
                for (int b = a + 1; b < net.switchTotal(); b++) {
                    if (net.isUp(a, b) && size < MAX_LINKS) {
                        codes[size] = 10 * a + b;
                        views[size] = net.viewWithout(a, b);
                        size++;
                    }
                }
            }
        }

        void dropUnfit(Clues clues, int everyHost) {
            int fitting = 0;
            for (int i = 0; i < size; i++) {
                if (clues.fit(views[i], everyHost)) {
                    codes[fitting] = codes[i];
                    views[fitting] = views[i];
                    fitting++;
                }
            }
            size = fitting;
        }

        /** How many twos of hosts that saw one another would do so no more. */
        int lostAt(int place, long before) {
            return place >= 0 && place < size ? twosOf(before & ~views[place]) : 0;
        }

        int dearest(long before) {
            int best = 0;
            for (int i = 1; i < size; i++) {
                if (lostAt(i, before) > lostAt(best, before)) {
                    best = i;
                }
            }
            return best;
        }

        int bestQuestion(int hosts) {
            int best = NONE;
            int least = size + 1;
            for (int g = 0; g < hosts; g++) {
                for (int h = g + 1; h < hosts; h++) {
                    int alike = mostAlike(viewBit(g, h));
                    if (alike < least) {
                        least = alike;
                        best = 10 * g + h;
                    }
                }
            }
            return best;
        }

        private int mostAlike(long bit) {
            int seeing = 0;
            for (int i = 0; i < size; i++) {
                if ((views[i] & bit) != 0) {
                    seeing++;
                }
            }
            return Math.max(seeing, size - seeing);
        }
    }
}
