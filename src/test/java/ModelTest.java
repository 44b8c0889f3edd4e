import java.util.Random;

/** Runs of 512 calls, drawn from fixed seeds, on the class and on SlowModel: each answer must be alike. */
final class ModelTest {
    private static final int RUNS = 1500, CALLS = 512, TEXTS = 60000;
    private static final int NONE = NamedFabric.NONE;
    private static final String LETTERS = "shs;;h-  0123456789 x";

    private final Random random;
    private NamedFabric is;
    private SlowModel due;
    private int calls;
    private final StringBuilder told = new StringBuilder();

    private ModelTest(long seed) {
        random = new Random(seed);
    }

    public static void main(String[] args) {
        int runs = args.length > 0 ? Integer.parseInt(args[0]) : RUNS;
        for (int run = 0; run < runs; run++) {
            if (!new ModelTest(run).runs()) {
                System.exit(1);
            }
        }
        ModelTest texts = new ModelTest(-1);
        for (int i = 0; i < TEXTS; i++) {
            texts.renew();
            if (!texts.tells(texts.brokenText())) {
                System.exit(1);
            }
        }
        Due.end();
    }

    private void renew() {
        is = new NamedFabric();
        due = new SlowModel();
        calls = 0;
        told.setLength(0);
    }

    private boolean runs() {
        renew();
        boolean alike = random.nextInt(20) == 0 || tells(text());
        while (alike && calls < CALLS) {
            alike = random.nextInt(600) == 0 ? tells(random.nextBoolean() ? text() : brokenText()) : next();
        }
        return alike;
    }

    private boolean alike(String call, int got, int want) {
        calls++;
        told.append(call).append(" = ").append(got).append('\n');
        if (got != want) {
            System.out.println(told + "due is " + want);
        }
        return got == want;
    }

    private boolean tells(String text) {
        boolean alike = alike("clear()", is.clear(), due.clear());
        for (int i = 0; i < text.length() && alike; i++) {
            int letter = text.charAt(i);
            alike = alike("type(" + letter + ")", is.type(letter), due.type(letter));
        }
        return alike && alike("tells()", is.tells(), due.tells());
    }

    private String text() {
        StringBuilder text = new StringBuilder();
        int switches = 1 + Math.max(random.nextInt(6), random.nextInt(6));
        int hosts = Math.max(random.nextInt(9), random.nextInt(9));
        boolean[] told = new boolean[100];
        boolean apart = random.nextBoolean();
        for (int s = 0; s < switches; s++) {
            int name = random.nextInt(100);
            while (told[name]) {
                name = (name + 1) % 100;
            }
            told[name] = true;
            int want = apart ? s + 1 : random.nextInt(9);
            text.append('s').append(1 + random.nextInt(random.nextBoolean() ? 3 : 9));
            text.append(' ').append(name).append(' ').append(want).append(';');
        }
        for (int h = 0; h < hosts; h++) {
            text.append('h');
            int at = random.nextInt(switches + 1);
            text.append(at == switches && random.nextBoolean() ? "-" : String.valueOf(at % switches)).append(';');
        }
        return text.length() > 100 ? text() : text.toString();
    }

    private String brokenText() {
        StringBuilder text = new StringBuilder(text());
        for (int i = random.nextInt(4); i >= 0; i--) {
            int place = random.nextInt(text.length() + 1);
            char letter = LETTERS.charAt(random.nextInt(LETTERS.length()));
            int how = random.nextInt(4);
            if (how == 0 || place == text.length()) {
                text.insert(place, letter);
            } else if (how == 1) {
                text.setCharAt(place, letter);
            } else if (how == 2 && text.length() > 1) {
                text.deleteCharAt(place);
            } else {
                text.insert(place, ' ');
            }
        }
        if (random.nextInt(8) == 0) {
            text.setLength(random.nextInt(text.length() + 1));
        }
        if (random.nextInt(8) == 0) {
            text.insert(text.length(), "s1 2 3;h0;h-;");
        }
        text.setLength(Math.min(100, text.length()));
        return text.toString();
    }

    /** Mostly one of those below a bound, at times one beyond. */
    private int below(int bound) {
        if (random.nextInt(40) == 0) {
            int[] odd = {-1, bound, bound + 1, NONE, Integer.MAX_VALUE, Integer.MIN_VALUE, 6, 8};
            return odd[random.nextInt(odd.length)];
        }
        return random.nextInt(Math.max(1, bound));
    }

    private int set() {
        int hosts = due.count(1);
        int set = random.nextInt(1 << hosts);
        return random.nextInt(3) == 0 ? 0 : random.nextInt(25) == 0 ? set - random.nextInt(2) * 1000 + 128 : set;
    }

    private boolean next() {
        int a = below(due.count(0));
        int b = below(due.count(0));
        int h = below(due.count(1));
        String two = "(" + a + ", " + b + ")";
        switch (random.nextInt(30)) {
            case 0: case 1: case 2: case 3: case 4:
                return alike("joins" + two, is.joins(a, b), due.joins(a, b));
            case 5: case 6:
                return alike("cuts" + two, is.cuts(a, b), due.cuts(a, b));
            case 7: case 8: return zones(a);
            case 9: {
                int to = random.nextInt(6) == 0 ? NONE : a;
                return alike("moves(" + h + ", " + to + ")", is.moves(h, to), due.moves(h, to));
            }
            case 10: {
                int p = below(10);
                return alike("ranks(" + a + ", " + p + ")", is.ranks(a, p), due.ranks(a, p));
            }
            case 11: return alike("renews(" + a + ")", is.renews(a), due.renews(a));
            case 12: {
                int to = below(2);
                return alike("allows(" + to + ")", is.allows(to), due.allows(to));
            }
            case 13: return alike("undo()", is.undo(), due.undo());
            case 14: return clues();
            case 15: return images();
            default: return query(a, b, h);
        }
    }

    private boolean zones(int a) {
        int z = below(4);
        int set = set();
        return alike("zones(" + a + ", " + z + ", " + set + ")", is.zones(a, z, set), due.zones(a, z, set));
    }

    private boolean clues() {
        if (random.nextInt(4) == 0) {
            return alike("forget()", is.forget(), due.forget());
        }
        int g = random.nextInt(5) == 0 ? below(8) : below(due.count(1));
        int h = below(due.count(1));
        int so = below(2);
        return alike("sees(" + g + ", " + h + ", " + so + ")", is.sees(g, h, so), due.sees(g, h, so));
    }

    private boolean images() {
        int image = below(2);
        if (random.nextBoolean()) {
            return alike("keep(" + image + ")", is.keep(image), due.keep(image));
        }
        return random.nextInt(3) != 0 || alike("back(" + image + ")", is.back(image), due.back(image));
    }

    private boolean query(int a, int b, int h) {
        int what = below(8);
        switch (random.nextInt(9)) {
            case 0: return alike("device(" + a + ", " + what + ")", is.device(a, what), due.device(a, what));
            case 1: return alike("link(" + a + ", " + b + ")", is.link(a, b), due.link(a, b));
            case 2: return alike("zone(" + a + ", " + what % 5 + ")", is.zone(a, what % 5), due.zone(a, what % 5));
            case 3: return alike("host(" + h + ", " + what % 5 + ")", is.host(h, what % 5), due.host(h, what % 5));
            case 4: return alike("would(" + a + ", " + b + ")", is.would(a, b), due.would(a, b));
            case 5: return alike("weakest(" + what % 3 + ")", is.weakest(what % 3), due.weakest(what % 3));
            case 6: return alike("which(" + what % 3 + ")", is.which(what % 3), due.which(what % 3));
            case 7: return alike("ask()", is.ask(), due.ask());
            default: {
                int of = below(11);
                return alike("count(" + of + ")", is.count(of), due.count(of));
            }
        }
    }
}
