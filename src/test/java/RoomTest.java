import java.lang.management.ManagementFactory;
import java.util.Random;

/** What calls allocate is little, and no numbers make a call throw. */
public final class RoomTest {
    private static final int[] ODD = {Integer.MIN_VALUE, Integer.MIN_VALUE + 1, -1000000, -401, -7, -2, -1, 0, 1, 2, 3,
        4, 5, 6, 7, 9, 10, 15, 16, 17, 20, 99, 100, 400, 999, 1000, 9999, 1000000, Integer.MAX_VALUE - 1,
        Integer.MAX_VALUE};
    private static int kept = 0;

    public static void main(String[] args) {
        wildNumbers();
        wildTapes();
        room();
        Check.finish("RoomTest");
    }

    private static void wildNumbers() {
        for (int seed = 0; seed < 400; seed++) {
            Random random = new Random(seed);
            GiftDuel x = new GiftDuel();
            if (seed % 2 == 1) {
                fill(x);
            }
            for (int i = 0; i < 500; i++) {
                int[] n = new int[5];
                for (int k = 0; k < 5; k++) {
                    n[k] = random.nextInt(3) == 0 ? ODD[random.nextInt(ODD.length)] : random.nextInt(7) - 1;
                }
                kept += call(x, random.nextInt(39), n);
            }
        }
        Check.holds("no wild number throws", true);
    }

    private static void wildTapes() {
        String signs = "[](){};<>=+-*/% 0123456789abz";
        for (int seed = 0; seed < 2000; seed++) {
            Random random = new Random(seed);
            GiftDuel x = new GiftDuel();
            StringBuilder text = new StringBuilder(seed % 2 == 0 ? "worth " : "wait if ");
            int length = random.nextInt(390);
            for (int i = 0; i < length; i++) {
                text.append(seed % 5 == 0 ? (char) random.nextInt(256) : signs.charAt(random.nextInt(signs.length())));
            }
            Check.type(x, text.toString());
            kept += seed % 4 < 2 ? x.law() : x.orders();
        }
        Check.holds("no wild tape throws", true);
    }

    /** A full hall: six LORDS, 16 GOODS, all HERALDS and ROADS, a LAW of many CLAUSES. */
    private static void fill(GiftDuel x) {
        for (int i = 0; i < 6; i++) {
            x.lord(50 * i, 3 * i);
        }
        for (int i = 0; i < 16; i++) {
            x.good(i % 6, 5 * i, i);
        }
        for (int i = 0; i < 5; i++) {
            x.herald(1 + i);
        }
        for (int i = 0; i < 12; i++) {
            x.road(i % 6, (i + 1 + i / 6) % 6, 1 + i, i % 10);
        }
        Check.rule(x, "worth base * [1 + herald % 3] + year - given * 2 if not (to = 1 or giver > 4) and mood < 5;"
                + "keeps keep + year / 10 if to < 4; keeps keep / [year % 3]; bars if good = 3 and to = 5; bars if 1/0=1");
    }

    private static int call(GiftDuel x, int which, int[] n) {
        switch (which) {
            case 0: return x.lord(n[0], n[1]);
            case 1: return x.of(n[0], n[1]);
            case 2: return x.put(n[0], n[1], n[2]);
            case 3: return x.good(n[0], n[1], n[2]);
            case 4: return x.at(n[0], n[1]);
            case 5: return x.terms(n[0], n[1]);
            case 6: return x.feed(n[0], n[1], n[2], n[3], n[4]);
            case 7: return x.end(n[0]);
            case 8: return x.row();
            case 9: return x.dross();
            case 10: return x.law();
            case 11: return x.orders();
            case 12: return x.fault();
            case 13: return x.stopped();
            case 14: return x.force(n[0]);
            case 15: return x.asks(n[0], n[1], n[2]);
            case 16: return x.give(n[0], n[1]);
            case 17: return x.await();
            case 18: return x.undo();
            case 19: return x.debt(n[0], n[1], n[2]);
            case 20: return x.owed(n[0], n[1]);
            case 21: return x.duel(n[0], n[1], n[2]);
            case 22: return x.ruin(n[0], n[1]);
            case 23: return x.siege(n[0], n[1], n[2], n[3]);
            case 24: return x.herald(n[0]);
            case 25: return x.tells(n[0], n[1]);
            case 26: return x.bribe(n[0], n[1], n[2]);
            case 27: return x.road(n[0], n[1], n[2], n[3]);
            case 28: return x.way(n[0], n[1], n[2]);
            case 29: return x.ring(n[0]);
            case 30: return x.shelf(n[0], n[1]);
            case 31: return x.found(n[0], n[1]);
            case 32: return x.beats(n[0], n[1], n[2]);
            case 33: return x.generation(n[0], n[1]);
            case 34: return x.drawn(n[0], n[1]);
            case 35: return x.image(n[0]);
            case 36: return x.back(n[0]);
            case 37: return x.count(n[0]);
            default: return x.status();
        }
    }

    private static long allocated() {
        return ((com.sun.management.ThreadMXBean) ManagementFactory.getThreadMXBean())
                .getThreadAllocatedBytes(Thread.currentThread().getId());
    }

    /**
     * LANGUAGE.md: all calls of one run live in one room of 7.3 million fields and elements; a run has 512 calls
     * at most, the dearest among them. Behind the first rounds, which load classes.
     */
    private static void room() {
        int[] n = {0, 1, 0, 0, 0};
        for (int round = 0; round < 3; round++) {
            for (int which = 0; which < 39; which++) {
                long from = allocated();
                long asking = allocated() - from;
                from = allocated();
                GiftDuel x = new GiftDuel();
                fill(x);
                x.image(0);
                for (int i = 0; i < 400; i++) {
                    n[2] = i % 3;
                    n[3] = n[2];
                    kept += dearest(x, which, n);
                }
                long used = allocated() - from - asking;
                if (round == 2) {
                    Check.holds("room of 512 calls like " + which + ": " + used, used < 4 * 7300000L);
                }
            }
        }
    }

    /** The call with the numbers that cost it most. */
    private static int dearest(GiftDuel x, int which, int[] n) {
        switch (which) {
            case 11:
                Check.type(x, "wait times 20;give 0 to [holder 0+1]%6 times 20;".repeat(5) + "wait if 1=2");
                return x.orders();
            case 22: return x.ruin(1, 99);
            case 23: return x.siege(0, 1, 9, n[2]);
            case 31: return x.found(3, n[2] * 3);
            case 33: return x.generation(n[2], 50);
            default: return call(x, which, n);
        }
    }
}
