import java.util.ArrayList;
import java.util.List;
import java.util.Random;

/** Long runs of drawn calls, each answered by the class and by the Model alike. */
public final class ModelTest {
    private static final int RUNS = 300;
    private static final int CALLS = 500;

    /** What a run is about, so that rare things come up often in some: feuds have rings, the poor sieges. */
    private static final int ANYTHING = 0;
    private static final int FEUD = 1;
    private static final int POOR = 2;
    private static final int TRAVEL = 3;
    private static final int DUELS = 4;

    private final Random random;
    private final GiftDuel x = new GiftDuel();
    private final Model m = new Model();
    private final List<String> story = new ArrayList<>();
    private final int mostGoods;
    private final int mostLords;
    private final int theme;
    private boolean differs = false;

    private ModelTest(long seed) {
        random = new Random(seed);
        theme = random.nextInt(5);
        boolean full = theme != ANYTHING && random.nextInt(3) > 0;
        mostLords = full ? 6 : 2 + random.nextInt(5);
        mostGoods = full ? 16 : 2 + random.nextInt(6);
    }

    public static void main(String[] args) {
        int runs = args.length > 0 ? Integer.parseInt(args[0]) : RUNS;
        for (int seed = 0; seed < runs; seed++) {
            ModelTest test = new ModelTest(seed);
            test.furnish();
            for (int i = 0; i < CALLS && !test.differs; i++) {
                test.call();
            }
            if (test.differs) {
                System.out.println("run " + seed + ":");
                for (String line : test.story) {
                    System.out.println("  " + line);
                }
                break;
            }
        }
        Check.finish("ModelTest");
    }

    private void same(String call, int got, int want) {
        story.add(call + " -> " + got);
        Check.due(call, got, want);
        differs |= got != want;
    }

    private int n(int bound) {
        return random.nextInt(bound);
    }

    /** Mostly a number that can be, sometimes one beside, rarely a wild one. */
    private int some(int least, int most) {
        int kind = n(60);
        if (kind == 0) {
            return least - 1;
        }
        if (kind == 1) {
            return most + 1;
        }
        if (kind == 2) {
            return n(2) == 0 ? random.nextInt() : n(2) == 0 ? Integer.MIN_VALUE : Integer.MAX_VALUE;
        }
        return least + n(most - least + 1);
    }

    private int aLord() {
        return some(0, Math.max(0, x.count(0) - 1));
    }

    private int aGood() {
        return some(0, Math.max(0, x.count(1) - 1));
    }

    private void type(String text) {
        if (n(20) != 0) {
            same("end(0)", x.end(0), m.end(0));
        }
        byte[] b = text.getBytes(java.nio.charset.StandardCharsets.ISO_8859_1);
        int had = x.count(7);
        for (int i = 0; i < b.length; i += 20) {
            int[] f = new int[5];
            for (int k = 0; k < 5; k++) {
                f[k] = Check.four(b, i + 4 * k);
            }
            same("feed", x.feed(f[0], f[1], f[2], f[3], f[4]), m.feed(f[0], f[1], f[2], f[3], f[4]));
        }
        int to = had + b.length;
        same("end(" + to + ")", x.end(to), m.end(to));
        story.add("text: " + text);
    }

    /** The hall that the theme needs. */
    private void furnish() {
        if (theme == ANYTHING) {
            return;
        }
        for (int i = 0; i < mostLords; i++) {
            int grain = theme == POOR ? n(60) : theme == DUELS ? n(40) : 5000;
            int harvest = n(theme == POOR ? 9 : 30);
            same("lord(" + grain + ", " + harvest + ")", x.lord(grain, harvest), m.lord(grain, harvest));
        }
        for (int i = 0; i < mostGoods; i++) {
            int l = n(theme == FEUD || theme == TRAVEL ? mostLords : 2);
            int b = n(theme == FEUD ? 10 : 100);
            int k = n(theme == FEUD ? 2 : theme == DUELS ? 15 : 21);
            same("good(" + l + ", " + b + ", " + k + ")", x.good(l, b, k), m.good(l, b, k));
        }
        for (int i = 0; i < 12 && theme == TRAVEL; i++) {
            int a = n(mostLords);
            int b = n(mostLords);
            int d = 1 + n(4);
            int t = n(n(2) == 0 ? 10 : 2);
            same("road(" + a + ", " + b + ", " + d + ", " + t + ")", x.road(a, b, d, t), m.road(a, b, d, t));
        }
        same("terms(1, 3)", x.terms(1, 3), m.terms(1, 3));
    }

    private void call() {
        int kind = n(100);
        if (n(4) == 0 && themed()) {
            return;
        }
        if (x.count(0) < 2 || kind < 3 && x.count(0) < mostLords) {
            int g = n(3) == 0 ? some(0, 9999) : some(0, 150);
            int h = n(3) == 0 ? some(0, 99) : some(0, 20);
            same("lord(" + g + ", " + h + ")", x.lord(g, h), m.lord(g, h));
        } else if (x.count(1) < 2 || kind < 10 && x.count(1) < mostGoods) {
            int l = aLord();
            int b = some(0, 99);
            int k = n(2) == 0 ? some(0, 20) : some(0, 4);
            same("good(" + l + ", " + b + ", " + k + ")", x.good(l, b, k), m.good(l, b, k));
        } else if (kind < 40) {
            deed();
        } else if (kind < 52) {
            build();
        } else {
            question();
        }
        same("status()", x.status(), m.status());
    }

    /** A call that the theme is about; false: it has none. */
    private boolean themed() {
        int a = n(mostLords);
        int b = n(mostLords);
        int w;
        switch (theme) {
            case FEUD:
                int g = n(mostGoods);
                same("give(" + g + ", " + a + ")", x.give(g, a), m.give(g, a));
                same("ring(-1)", x.ring(-1), m.ring(-1));
                w = n(5);
                same("ring(" + w + ")", x.ring(w), m.ring(w));
                same("owed(" + b + ", 1)", x.owed(b, 1), m.owed(b, 1));
                return true;
            case POOR:
                int years = 1 + n(9);
                w = n(3);
                same("siege(" + a + ", " + b + ", " + years + ", " + w + ")",
                        x.siege(a, b, years, w), m.siege(a, b, years, w));
                same("ruin(" + a + ", 99)", x.ruin(a, 99), m.ruin(a, 99));
                return true;
            case TRAVEL:
                w = n(9);
                same("way(" + a + ", " + b + ", " + w + ")", x.way(a, b, w), m.way(a, b, w));
                return true;
            case DUELS:
                w = n(4);
                same("duel(0, 1, " + w + ")", x.duel(0, 1, w), m.duel(0, 1, w));
                same("duel(1, 0, " + w + ")", x.duel(1, 0, w), m.duel(1, 0, w));
                return true;
            default:
                return false;
        }
    }

    private void deed() {
        int kind = theme == FEUD ? n(20) : n(40);
        if (theme >= POOR && n(3) > 0) {
            return;
        }
        if (kind < 20) {
            int g = aGood();
            int l = aLord();
            same("give(" + g + ", " + l + ")", x.give(g, l), m.give(g, l));
        } else if (kind < 25) {
            same("await()", x.await(), m.await());
        } else if (kind < 29) {
            same("undo()", x.undo(), m.undo());
        } else if (kind < 34) {
            type(Texts.orders(random));
            same("orders()", x.orders(), m.orders());
            same("fault()", x.fault(), m.fault());
            same("stopped()", x.stopped(), m.stopped());
        } else if (kind < 36) {
            int seed = n(4) == 0 ? some(0, 1000000) : some(0, 99);
            int years = n(2) == 0 ? some(1, 50) : some(1, 6);
            same("generation(" + seed + ", " + years + ")", x.generation(seed, years), m.generation(seed, years));
        } else if (kind < 38) {
            int k = some(0, 1);
            same("image(" + k + ")", x.image(k), m.image(k));
        } else if (kind < 39) {
            int k = some(0, 1);
            same("back(" + k + ")", x.back(k), m.back(k));
        } else {
            StringBuilder bytes = new StringBuilder();
            int length = n(14);
            for (int i = 0; i < length; i++) {
                bytes.append((char) (n(9) == 0 ? n(256) : n(i % 3 == 0 ? 4 : 21)));
            }
            if (x.count(1) + length / 3 <= mostGoods) {
                type(bytes.toString());
            }
            same("row()", x.row(), m.row());
            same("dross()", x.dross(), m.dross());
        }
    }

    private void build() {
        int kind = n(20);
        if (kind < 6) {
            type(Texts.law(random));
            same("law()", x.law(), m.law());
            same("fault()", x.fault(), m.fault());
            int law = some(-1, x.count(4) - 1);
            same("force(" + law + ")", x.force(law), m.force(law));
        } else if (kind < 8) {
            int law = some(-1, x.count(4) - 1);
            same("force(" + law + ")", x.force(law), m.force(law));
        } else if (kind < 10) {
            int p = some(1, 9);
            same("herald(" + p + ")", x.herald(p), m.herald(p));
        } else if (kind < 13) {
            int a = aLord();
            int b = aLord();
            int d = some(1, n(2) == 0 ? 30 : 3);
            int t = some(0, n(2) == 0 ? 10 : 3);
            same("road(" + a + ", " + b + ", " + d + ", " + t + ")", x.road(a, b, d, t), m.road(a, b, d, t));
        } else if (kind < 16) {
            int g = aGood();
            int l = some(-1, x.count(0) - 1);
            same("shelf(" + g + ", " + l + ")", x.shelf(g, l), m.shelf(g, l));
        } else if (kind < 18) {
            int l = aLord();
            int w = some(0, 1);
            int v = some(0, n(2) == 0 ? 9999 : 60);
            same("put(" + l + ", " + w + ", " + v + ")", x.put(l, w, v), m.put(l, w, v));
        } else {
            int w = some(0, 2);
            int v = n(12) == 0 ? some(990, 999) : some(0, 5);
            same("terms(" + w + ", " + v + ")", x.terms(w, v), m.terms(w, v));
        }
    }

    private void question() {
        int a = aLord();
        int b = aLord();
        int g = aGood();
        int h = aGood();
        int w;
        switch (n(17)) {
            case 0:
                w = some(0, 7);
                same("of(" + a + ", " + w + ")", x.of(a, w), m.of(a, w));
                break;
            case 1:
                w = some(0, 5);
                same("at(" + g + ", " + w + ")", x.at(g, w), m.at(g, w));
                break;
            case 2:
                w = some(0, 2);
                same("asks(" + g + ", " + a + ", " + w + ")", x.asks(g, a, w), m.asks(g, a, w));
                break;
            case 3:
                w = some(0, 1);
                same("debt(" + a + ", " + b + ", " + w + ")", x.debt(a, b, w), m.debt(a, b, w));
                break;
            case 4:
                w = some(0, 1);
                same("owed(" + a + ", " + w + ")", x.owed(a, w), m.owed(a, w));
                break;
            case 5:
            case 6:
                w = some(0, 3);
                same("duel(" + a + ", " + b + ", " + w + ")", x.duel(a, b, w), m.duel(a, b, w));
                break;
            case 7:
                w = some(1, n(2) == 0 ? 99 : 9);
                same("ruin(" + a + ", " + w + ")", x.ruin(a, w), m.ruin(a, w));
                break;
            case 8:
                int years = some(1, 9);
                w = some(0, 2);
                same("siege(" + a + ", " + b + ", " + years + ", " + w + ")",
                        x.siege(a, b, years, w), m.siege(a, b, years, w));
                break;
            case 9:
                int herald = some(-1, x.count(2) - 1);
                same("tells(" + herald + ", " + g + ")", x.tells(herald, g), m.tells(herald, g));
                break;
            case 10:
                w = some(0, 1);
                same("bribe(" + g + ", " + h + ", " + w + ")", x.bribe(g, h, w), m.bribe(g, h, w));
                break;
            case 11:
                w = some(0, 8);
                same("way(" + a + ", " + b + ", " + w + ")", x.way(a, b, w), m.way(a, b, w));
                break;
            case 12:
                w = some(-1, 5);
                same("ring(" + w + ")", x.ring(w), m.ring(w));
                break;
            case 13:
                int many = x.count(1) * x.count(0) > 24 ? some(0, 1) : some(0, 3);
                w = some(0, 2 * Math.max(0, Math.min(3, many)));
                same("found(" + many + ", " + w + ")", x.found(many, w), m.found(many, w));
                break;
            case 14:
                w = some(-1, 3);
                same("beats(" + a + ", " + b + ", " + w + ")", x.beats(a, b, w), m.beats(a, b, w));
                break;
            case 15:
                w = some(0, 6);
                same("drawn(" + a + ", " + w + ")", x.drawn(a, w), m.drawn(a, w));
                break;
            default:
                w = some(0, 16);
                same("count(" + w + ")", x.count(w), m.count(w));
                break;
        }
    }
}
