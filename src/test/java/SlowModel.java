import java.util.ArrayDeque;
import java.util.ArrayList;
import java.util.Comparator;
import java.util.Deque;
import java.util.List;
import java.util.Set;
import java.util.TreeSet;

/**
 * The document written down a second time, as slow and plain as can be, with the library's
 * collections: what ModelTest holds the class against.
 */
final class SlowModel {
    static final int BAD = -1, STATE = -2, FULL = -3, NONE = -9;

    private static final class Switch {
        int number, priority, name, want, block;
        List<Set<Integer>> zones = new ArrayList<>();

        Switch(int number, int priority, int name, int want) {
            this.number = number;
            this.priority = priority;
            this.name = name;
            this.want = want;
            block = want == 0 ? 1 : want;
            for (int z = 0; z < 4; z++) {
                zones.add(new TreeSet<>());
            }
        }

        Switch copy() {
            Switch c = new Switch(number, priority, name, want);
            c.block = block;
            for (int z = 0; z < 4; z++) {
                c.zones.get(z).addAll(zones.get(z));
            }
            return c;
        }
    }

    private static final class Host {
        int at;
        int notices;
        Set<Integer> news = new TreeSet<>();
    }

    private static final class World {
        List<Switch> switches = new ArrayList<>();
        List<Host> hosts = new ArrayList<>();
        int[][] links = new int[6][6];
        boolean renew;

        World copy() {
            World c = new World();
            for (Switch s : switches) {
                c.switches.add(s.copy());
            }
            for (Host h : hosts) {
                Host d = new Host();
                d.at = h.at;
                d.notices = h.notices;
                d.news.addAll(h.news);
                c.hosts.add(d);
            }
            for (int a = 0; a < 6; a++) {
                c.links[a] = links[a].clone();
            }
            c.renew = renew;
            return c;
        }

        boolean isSwitch(int a) {
            return a >= 0 && a < switches.size();
        }

        boolean isHost(int h) {
            return h >= 0 && h < hosts.size();
        }

        void setLink(int a, int b, int state) {
            links[a][b] = state;
            links[b][a] = state;
        }

        /** Fewest links that are up between two switches; 99 if there is no way. */
        int apart(int a, int b) {
            int n = switches.size();
            int[][] d = new int[n][n];
            for (int i = 0; i < n; i++) {
                for (int j = 0; j < n; j++) {
                    d[i][j] = i == j ? 0 : links[i][j] == 1 ? 1 : 99;
                }
            }
            for (int k = 0; k < n; k++) {
                for (int i = 0; i < n; i++) {
                    for (int j = 0; j < n; j++) {
                        d[i][j] = Math.min(d[i][j], d[i][k] + d[k][j]);
                    }
                }
            }
            return Math.min(99, d[a][b]);
        }

        boolean one(int a, int b) {
            return apart(a, b) < 99;
        }

        List<Switch> fabric(int a) {
            List<Switch> f = new ArrayList<>();
            for (Switch s : switches) {
                if (one(a, s.number)) {
                    f.add(s);
                }
            }
            return f;
        }

        int fabrics() {
            Set<Integer> firsts = new TreeSet<>();
            for (Switch s : switches) {
                firsts.add(fabric(s.number).get(0).number);
            }
            return firsts.size();
        }

        Switch principal(int a) {
            return fabric(a).stream().min(Comparator.<Switch>comparingInt(s -> s.priority).thenComparingInt(s -> s.name)).get();
        }

        int far(int a) {
            return apart(principal(a).number, a);
        }

        int handOut(int a) {
            List<Switch> order = fabric(a);
            order.sort(Comparator.<Switch>comparingInt(s -> far(s.number)).thenComparingInt(s -> s.name));
            Set<Integer> got = new TreeSet<>();
            int others = 0;
            for (Switch s : order) {
                int block = s.want;
                if (block == 0 || got.contains(block)) {
                    block = 1;
                    while (got.contains(block)) {
                        block++;
                    }
                }
                got.add(block);
                others += s.block == block ? 0 : 1;
                s.block = block;
            }
            return others;
        }

        boolean zonesClash(int a, int b) {
            for (int z = 0; z < 4; z++) {
                Set<Integer> p = switches.get(a).zones.get(z);
                Set<Integer> q = switches.get(b).zones.get(z);
                if (!p.isEmpty() && !q.isEmpty() && !p.equals(q)) {
                    return true;
                }
            }
            return false;
        }

        boolean blocksClash(int a, int b) {
            for (Switch p : fabric(a)) {
                for (Switch q : fabric(b)) {
                    if (p.block == q.block) {
                        return true;
                    }
                }
            }
            return false;
        }

        int join(int a, int b) {
            if (one(a, b)) {
                setLink(a, b, 1);
                return 1;
            }
            boolean blocks = blocksClash(a, b);
            if (zonesClash(a, b) || blocks && !renew) {
                setLink(a, b, 2);
                return 0;
            }
            for (int z = 0; z < 4; z++) {
                Set<Integer> both = new TreeSet<>(switches.get(a).zones.get(z));
                both.addAll(switches.get(b).zones.get(z));
                for (Switch s : switches) {
                    if (one(a, s.number) || one(b, s.number)) {
                        s.zones.set(z, new TreeSet<>(both));
                    }
                }
            }
            setLink(a, b, 1);
            if (blocks) {
                handOut(b);
            }
            return 1;
        }

        boolean sees(int g, int h) {
            int a = hosts.get(g).at;
            int b = hosts.get(h).at;
            if (g == h || a == NONE || b == NONE || !one(a, b)) {
                return false;
            }
            boolean open = true;
            for (Set<Integer> zone : switches.get(a).zones) {
                if (zone.contains(g) && zone.contains(h)) {
                    return true;
                }
                open &= zone.isEmpty();
            }
            return open;
        }

        boolean[][] sight() {
            int n = hosts.size();
            boolean[][] sight = new boolean[n][n];
            for (int g = 0; g < n; g++) {
                for (int h = 0; h < n; h++) {
                    sight[g][h] = sees(g, h);
                }
            }
            return sight;
        }

        void notices(boolean[][] was) {
            boolean[][] is = sight();
            for (int g = 0; g < hosts.size(); g++) {
                Set<Integer> news = new TreeSet<>();
                for (int h = 0; h < hosts.size(); h++) {
                    if (was[g][h] != is[g][h]) {
                        news.add(h);
                    }
                }
                if (!news.isEmpty()) {
                    hosts.get(g).notices++;
                    hosts.get(g).news = news;
                }
            }
        }

        int links(int state) {
            int n = 0;
            for (int a = 0; a < 6; a++) {
                for (int b = a + 1; b < 6; b++) {
                    n += links[a][b] == state ? 1 : 0;
                }
            }
            return n;
        }
    }

    private World now = new World();
    private final StringBuilder text = new StringBuilder();
    private final Deque<World> done = new ArrayDeque<>();
    private final World[] images = new World[2];
    private final List<int[]> seen = new ArrayList<>();

    SlowModel() {
        now.switches.add(new Switch(0, 5, 0, 0));
    }

    private void remember() {
        done.addLast(now.copy());
        if (done.size() > 5) {
            done.removeFirst();
        }
    }

    private static int bits(Iterable<Integer> set) {
        int bits = 0;
        for (int i : set) {
            bits |= 1 << i;
        }
        return bits;
    }

    int type(int letter) {
        if (letter < 0 || letter > 255) {
            return BAD;
        }
        if (text.length() == 100) {
            return FULL;
        }
        text.append((char) letter);
        return text.length();
    }

    int clear() {
        int n = text.length();
        text.setLength(0);
        return n;
    }

    private record Token(int place, String letters) {
        boolean number(int least, int most) {
            return letters.matches("0|[1-9][0-9]?") && Integer.parseInt(letters) >= least && Integer.parseInt(letters) <= most;
        }
    }

    private List<Token> tokens() {
        List<Token> all = new ArrayList<>();
        java.util.regex.Matcher m = java.util.regex.Pattern.compile("[0-9]+|[^ ]", java.util.regex.Pattern.DOTALL).matcher(text);
        while (m.find()) {
            all.add(new Token(m.start(), m.group()));
        }
        return all;
    }

    /** Tells a world, or answers the fault in a row of one. */
    private World told(int[] fault) {
        List<Token> tokens = tokens();
        tokens.add(new Token(text.length(), ""));
        fault[0] = -1;
        World w = new World();
        int i = 0;
        while (true) {
            Token t = tokens.get(i++);
            fault[0] = t.place;
            if (t.letters.isEmpty()) {
                return w.switches.isEmpty() ? null : w;
            }
            if (t.letters.equals("s") && w.hosts.isEmpty() && w.switches.size() < 6) {
                int[] most = {9, 99, 8};
                int[] got = new int[3];
                for (int k = 0; k < 3; k++) {
                    t = tokens.get(i++);
                    fault[0] = t.place;
                    if (!t.number(k == 0 ? 1 : 0, most[k])) {
                        return null;
                    }
                    got[k] = Integer.parseInt(t.letters);
                    if (k == 1 && w.switches.stream().anyMatch(s -> s.name == got[1])) {
                        return null;
                    }
                }
                w.switches.add(new Switch(w.switches.size(), got[0], got[1], got[2]));
            } else if (t.letters.equals("h") && !w.switches.isEmpty() && w.hosts.size() < 8) {
                t = tokens.get(i++);
                fault[0] = t.place;
                if (!t.letters.equals("-") && !t.number(0, w.switches.size() - 1)) {
                    return null;
                }
                Host h = new Host();
                h.at = t.letters.equals("-") ? NONE : Integer.parseInt(t.letters);
                w.hosts.add(h);
            } else {
                return null;
            }
            t = tokens.get(i++);
            fault[0] = t.place;
            if (!t.letters.equals(";")) {
                return null;
            }
        }
    }

    int tells() {
        int[] fault = new int[1];
        World w = told(fault);
        if (w == null) {
            return -10 - fault[0];
        }
        remember();
        now = w;
        text.setLength(0);
        seen.clear();
        images[0] = null;
        images[1] = null;
        return w.switches.size() + w.hosts.size();
    }

    private boolean noTwo(int a, int b) {
        return !now.isSwitch(a) || !now.isSwitch(b) || a == b;
    }

    int joins(int a, int b) {
        if (noTwo(a, b)) {
            return BAD;
        }
        if (now.links[a][b] == 1) {
            return STATE;
        }
        remember();
        boolean[][] was = now.sight();
        int is = now.join(a, b);
        now.notices(was);
        return is;
    }

    int cuts(int a, int b) {
        if (noTwo(a, b)) {
            return BAD;
        }
        if (now.links[a][b] == 0) {
            return STATE;
        }
        remember();
        boolean[][] was = now.sight();
        now.setLink(a, b, 0);
        now.notices(was);
        return now.fabrics();
    }

    int zones(int a, int z, int set) {
        if (!now.isSwitch(a) || z < 0 || z > 3 || set < 0 || set >= 1 << now.hosts.size()) {
            return BAD;
        }
        int old = zone(a, z);
        if (old == set) {
            return STATE;
        }
        remember();
        boolean[][] was = now.sight();
        for (Switch s : now.fabric(a)) {
            s.zones.get(z).clear();
            for (int h = 0; h < 8; h++) {
                if ((set >> h) % 2 == 1) {
                    s.zones.get(z).add(h);
                }
            }
        }
        now.notices(was);
        return old;
    }

    int moves(int host, int a) {
        if (!now.isHost(host) || a != NONE && !now.isSwitch(a)) {
            return BAD;
        }
        int old = now.hosts.get(host).at;
        if (old == a) {
            return STATE;
        }
        remember();
        boolean[][] was = now.sight();
        now.hosts.get(host).at = a;
        now.notices(was);
        return old;
    }

    int ranks(int a, int priority) {
        if (!now.isSwitch(a) || priority < 1 || priority > 9) {
            return BAD;
        }
        int old = now.switches.get(a).priority;
        if (old == priority) {
            return STATE;
        }
        remember();
        boolean[][] was = now.sight();
        now.switches.get(a).priority = priority;
        now.notices(was);
        return old;
    }

    int renews(int a) {
        if (!now.isSwitch(a)) {
            return BAD;
        }
        remember();
        boolean[][] was = now.sight();
        int n = now.handOut(a);
        now.notices(was);
        return n;
    }

    int allows(int is) {
        if (is != 0 && is != 1) {
            return BAD;
        }
        if (now.renew == (is == 1)) {
            return STATE;
        }
        remember();
        now.renew = is == 1;
        return 1;
    }

    int undo() {
        if (done.isEmpty()) {
            return STATE;
        }
        now = done.removeLast();
        return done.size();
    }

    int device(int a, int what) {
        if (!now.isSwitch(a) || what < 0 || what > 7) {
            return BAD;
        }
        Switch s = now.switches.get(a);
        List<Integer> at = new ArrayList<>();
        for (int h = 0; h < now.hosts.size(); h++) {
            if (now.hosts.get(h).at == a) {
                at.add(h);
            }
        }
        List<Integer> of = now.fabric(a).stream().map(t -> t.number).toList();
        int[] answers = {s.priority, s.name, s.want, s.block, now.principal(a).number, now.far(a), bits(of), bits(at)};
        return answers[what];
    }

    int link(int a, int b) {
        return noTwo(a, b) ? BAD : now.links[a][b];
    }

    int zone(int a, int z) {
        return !now.isSwitch(a) || z < 0 || z > 3 ? BAD : bits(now.switches.get(a).zones.get(z));
    }

    int host(int h, int what) {
        if (!now.isHost(h) || what < 0 || what > 3) {
            return BAD;
        }
        List<Integer> whom = new ArrayList<>();
        for (int g = 0; g < now.hosts.size(); g++) {
            if (now.sees(h, g)) {
                whom.add(g);
            }
        }
        Host it = now.hosts.get(h);
        int[] answers = {it.at, bits(whom), it.notices, bits(it.news)};
        return answers[what];
    }

    int would(int a, int b) {
        if (noTwo(a, b)) {
            return BAD;
        }
        if (now.links[a][b] == 1) {
            return STATE;
        }
        if (now.one(a, b)) {
            return 0;
        }
        boolean zones = now.zonesClash(a, b);
        boolean blocks = now.blocksClash(a, b);
        if (zones && blocks) {
            return 5;
        }
        if (zones) {
            return 4;
        }
        if (blocks && !now.renew) {
            return 3;
        }
        return blocks ? 2 : 1;
    }

    private static int twos(World w) {
        int n = 0;
        for (int g = 0; g < w.hosts.size(); g++) {
            for (int h = g + 1; h < w.hosts.size(); h++) {
                n += w.sees(g, h) ? 1 : 0;
            }
        }
        return n;
    }

    private World without(int code) {
        World w = now.copy();
        w.setLink(code / 10, code % 10, 0);
        return w;
    }

    private List<Integer> upLinks() {
        List<Integer> codes = new ArrayList<>();
        for (int a = 0; a < 6; a++) {
            for (int b = a + 1; b < 6; b++) {
                if (now.links[a][b] == 1) {
                    codes.add(10 * a + b);
                }
            }
        }
        return codes;
    }

    int weakest(int what) {
        if (what != 0 && what != 1) {
            return BAD;
        }
        int best = NONE;
        int most = NONE;
        for (int code : upLinks()) {
            // A cut shows nobody to anybody, so what is fewer is what is lost.
            int lost = twos(now) - twos(without(code));
            if (lost > most) {
                most = lost;
                best = code;
            }
        }
        return what == 0 ? best : most;
    }

    int sees(int g, int h, int is) {
        if (g < 0 || g > 7 || h < 0 || h > 7 || g == h || is != 0 && is != 1) {
            return BAD;
        }
        if (seen.size() == 6) {
            return FULL;
        }
        seen.add(new int[] {g, h, is});
        return seen.size();
    }

    int forget() {
        int n = seen.size();
        seen.clear();
        return n;
    }

    private List<Integer> fitting() {
        List<Integer> fit = new ArrayList<>();
        for (int code : upLinks()) {
            World w = without(code);
            boolean so = true;
            for (int[] s : seen) {
                so = so && w.isHost(s[0]) && w.isHost(s[1]) && w.sees(s[0], s[1]) == (s[2] == 1);
            }
            if (so) {
                fit.add(code);
            }
        }
        return fit;
    }

    int which(int what) {
        if (what != 0 && what != 1) {
            return BAD;
        }
        List<Integer> fit = fitting();
        return what == 0 ? fit.size() : fit.isEmpty() ? NONE : fit.get(0);
    }

    int ask() {
        List<Integer> fit = fitting();
        int best = NONE;
        int least = 99;
        for (int g = 0; g < now.hosts.size() && fit.size() > 1; g++) {
            for (int h = g + 1; h < now.hosts.size(); h++) {
                int yes = 0;
                int no = 0;
                for (int code : fit) {
                    if (without(code).sees(g, h)) {
                        yes++;
                    } else {
                        no++;
                    }
                }
                if (Math.max(yes, no) < least) {
                    least = Math.max(yes, no);
                    best = 10 * g + h;
                }
            }
        }
        return best;
    }

    int keep(int image) {
        if (image != 0 && image != 1) {
            return BAD;
        }
        images[image] = now.copy();
        return now.fabrics();
    }

    int back(int image) {
        if (image != 0 && image != 1) {
            return BAD;
        }
        if (images[image] == null) {
            return STATE;
        }
        now = images[image].copy();
        done.clear();
        return now.fabrics();
    }

    int count(int what) {
        switch (what) {
            case 0: return now.switches.size();
            case 1: return now.hosts.size();
            case 2: return now.fabrics();
            case 3: return now.links(1);
            case 4: return now.links(2);
            case 5: return now.renew ? 1 : 0;
            case 6: return now.hosts.stream().mapToInt(h -> h.notices).sum();
            case 7: return twos(now);
            case 8: return seen.size();
            case 9: return text.length();
            case 10: return done.size();
            default: return BAD;
        }
    }
}
