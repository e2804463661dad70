import java.util.Arrays;

/** Lords who duel by giving. What each call answers stands in the document, promise by promise. */
public final class GiftDuel {
    public static final int NONE = -1;

    private static final int NO_NUMBER = -1;
    private static final int NO_SUCH = -2;
    private static final int NOT_NOW = -3;
    private static final int NO_ROOM = -5;
    private static final int NO_TEXT = -6;

    private static final int MOST_LORDS = 6;
    private static final int MOST_GOODS = 16;
    private static final int MOST_HERALDS = 5;
    private static final int MOST_ROADS = 12;
    private static final int MOST_LAWS = 6;
    private static final int MOST_GRAIN = 9999;
    private static final int MOST_HARVEST = 99;
    private static final int MOST_BASE = 99;
    private static final int MOST_KEEP = 20;
    private static final int MOST_WORTH = 999;
    private static final int MOST_COST = 99;
    private static final int LAST_YEAR = 999;
    private static final int GIFT = 0;
    private static final int YEAR_PASSED = 1;

    private final World world = new World();
    private final World firstImage = new World();
    private final World secondImage = new World();
    private final Past past = new Past();
    private final Reader reader = new Reader();
    private final Judge judge = new Judge();
    private final Deeds deeds = new Deeds(judge);
    private final Orders runner = new Orders(deeds);
    private final Duels duels = new Duels(judge);
    private final Sieges sieges = new Sieges(judge);
    private final Ways ways = new Ways();
    private final Shelves shelves = new Shelves(judge);
    private final int[] refusals = new int[7];
    private int latest = 0;
    private int drossSeen = 0;

    /** No LORDS, no GOODS. */
    public GiftDuel() {
    }

    /** Each call that status() looks at ends either here or in accept(). */
    private int refuse(int by) {
        latest = by;
        if (by < 0 && by > -refusals.length) {
            refusals[-by]++;
        }
        return by;
    }

    private int accept(int answer) {
        latest = 0;
        return answer;
    }

    private static boolean within(int number, int least, int most) {
        return number >= least && number <= most;
    }

    public int lord(int grain, int harvest) {
        if (!within(grain, 0, MOST_GRAIN) || !within(harvest, 0, MOST_HARVEST)) {
            return refuse(NO_NUMBER);
        }
        if (world.many(World.LORDS) >= MOST_LORDS) {
            return refuse(NO_ROOM);
        }
        past.clear();
        return accept(world.addLord(grain, harvest));
    }

    public int of(int lord, int what) {
        if (!world.isLord(lord)) {
            return NONE;
        }
        if (what == 7) {
            return judge.upkeep(world, lord, world.term(World.YEAR));
        }
        return world.seenOf(lord, what);
    }

    public int put(int lord, int what, int value) {
        if (!within(what, World.GRAIN, World.HARVEST)
                || !within(value, 0, what == World.GRAIN ? MOST_GRAIN : MOST_HARVEST)) {
            return refuse(NO_NUMBER);
        }
        if (!world.isLord(lord)) {
            return refuse(NO_SUCH);
        }
        int was = world.lordAt(lord, what);
        world.setLord(lord, what, value);
        past.clear();
        return accept(was);
    }

    public int good(int holder, int base, int keep) {
        if (!within(base, 0, MOST_BASE) || !within(keep, 0, MOST_KEEP)) {
            return refuse(NO_NUMBER);
        }
        if (!world.isLord(holder)) {
            return refuse(NO_SUCH);
        }
        if (world.many(World.GOODS) >= MOST_GOODS) {
            return refuse(NO_ROOM);
        }
        past.clear();
        return accept(world.addGood(holder, base, keep));
    }

    public int at(int good, int what) {
        if (!world.isGood(good) || !within(what, 0, 5)) {
            return NONE;
        }
        if (what == 5) {
            return judge.costs(world, good, world.goodAt(good, World.HOLDER), world.term(World.YEAR));
        }
        return world.goodAt(good, what);
    }

    public int terms(int what, int value) {
        boolean can = what == World.YEAR && within(value, 0, LAST_YEAR)
                || what == World.GRACE && within(value, 1, 3)
                || what == World.MOOD && within(value, 0, 9);
        if (!can) {
            return refuse(NO_NUMBER);
        }
        int was = world.term(what);
        world.setTerm(what, value);
        past.clear();
        return accept(was);
    }

    public int feed(int a, int b, int c, int d, int e) {
        if (!reader.hasRoom(20)) {
            return NONE;
        }
        reader.append(a);
        reader.append(b);
        reader.append(c);
        reader.append(d);
        reader.append(e);
        return reader.length();
    }

    public int end(int n) {
        if (!within(n, 0, reader.length())) {
            return NONE;
        }
        reader.cut(n);
        return n;
    }

    public int row() {
        int length = reader.length();
        if (length == 0) {
            return refuse(NO_TEXT);
        }
        past.clear();
        int came = 0;
        drossSeen = 0;
        for (int from = 0; from < length; from += 3) {
            if (from + 3 <= length && comes(reader.byteAt(from), reader.byteAt(from + 1), reader.byteAt(from + 2))) {
                came++;
            } else {
                drossSeen++;
            }
        }
        reader.cut(0);
        return accept(came);
    }

    private boolean comes(int holder, int base, int keep) {
        boolean can = world.isLord(holder) && base <= MOST_BASE && keep <= MOST_KEEP
                && world.many(World.GOODS) < MOST_GOODS;
        if (can) {
            world.addGood(holder, base, keep);
        }
        return can;
    }

    public int dross() {
        return drossSeen;
    }

    public int law() {
        if (world.many(World.LAWS) >= MOST_LAWS) {
            reader.cut(0);
            return refuse(NO_ROOM);
        }
        boolean can = reader.reads(true);
        reader.cut(0);
        return can ? accept(world.addLaw(reader.text().trimmed())) : refuse(NO_TEXT);
    }

    public int orders() {
        boolean can = reader.reads(false);
        reader.cut(0);
        if (!can) {
            runner.forget();
            return refuse(NO_TEXT);
        }
        int ran = runner.run(reader.text(), world, past);
        return ran < 0 ? refuse(NOT_NOW) : accept(ran);
    }

    public int fault() {
        return reader.faultPlace();
    }

    public int stopped() {
        return runner.stoppedAt();
    }

    public int force(int law) {
        if (!within(law, NONE, world.many(World.LAWS) - 1)) {
            return refuse(NO_SUCH);
        }
        int was = world.inForce();
        world.setForce(law);
        return accept(was);
    }

    public int asks(int good, int to, int what) {
        if (!world.isGood(good) || !world.isLord(to)) {
            return NONE;
        }
        int giver = world.goodAt(good, World.HOLDER);
        if (giver == to) {
            return NONE;
        }
        switch (what) {
            case 0:
                return judge.worth(world, good, giver, to);
            case 1:
                return judge.bars(world, good, giver, to) ? 1 : 0;
            case 2:
                return world.goodAt(good, World.OWNER) != giver ? 1 : 0;
            default:
                return NONE;
        }
    }

    public int give(int good, int to) {
        if (!world.isGood(good) || !world.isLord(to)) {
            return refuse(NO_SUCH);
        }
        if (!deeds.mayGive(world, good, to)) {
            return refuse(NOT_NOW);
        }
        past.keep(world, GIFT);
        return accept(deeds.hand(world, good, to));
    }

    public int await() {
        if (world.term(World.YEAR) >= LAST_YEAR) {
            return refuse(NOT_NOW);
        }
        past.keep(world, YEAR_PASSED);
        return accept(deeds.passYear(world, 0));
    }

    public int undo() {
        int undone = past.takeBack(world);
        return undone == NONE ? refuse(NOT_NOW) : accept(undone);
    }

    public int debt(int against, int from, int what) {
        if (!world.isLord(against) || !world.isLord(from) || world.worthOwed(against, from) == NONE) {
            return NONE;
        }
        switch (what) {
            case 0:
                return world.worthOwed(against, from);
            case 1:
                return world.since(against, from);
            default:
                return NONE;
        }
    }

    public int owed(int lord, int what) {
        if (!world.isLord(lord)) {
            return NONE;
        }
        switch (what) {
            case 0:
                return world.standingAgainst(lord);
            case 1:
                return world.greatestCreditor(lord);
            default:
                return NONE;
        }
    }

    public int duel(int first, int other, int what) {
        if (!world.isLord(first) || !world.isLord(other) || first == other) {
            return NONE;
        }
        return duels.answer(world, first, other, what);
    }

    public int ruin(int lord, int n) {
        if (!world.isLord(lord) || !within(n, 1, 99)) {
            return NONE;
        }
        return sieges.fallOf(world, lord, n);
    }

    public int siege(int from, int to, int n, int what) {
        if (!world.isLord(from) || !world.isLord(to) || from == to || !within(n, 1, Sieges.MOST_YEARS)) {
            return NONE;
        }
        return sieges.answer(world, from, to, n, what);
    }

    public int herald(int price) {
        if (!within(price, 1, 9)) {
            return refuse(NO_NUMBER);
        }
        if (world.many(World.HERALDS) >= MOST_HERALDS) {
            return refuse(NO_ROOM);
        }
        return accept(world.addHerald(price));
    }

    public int tells(int herald, int good) {
        int heralds = world.many(World.HERALDS);
        if (heralds == 0 || !world.isGood(good) || !within(herald, NONE, heralds - 1)) {
            return NONE;
        }
        return herald == NONE ? judge.middle(world, good) : judge.voice(world, herald, good);
    }

    public int bribe(int good, int over, int what) {
        if (!world.isGood(good) || !world.isGood(over) || good == over || world.many(World.HERALDS) == 0) {
            return NONE;
        }
        return judge.cheapestBribe(world, good, over, what);
    }

    public int road(int one, int other, int days, int thieves) {
        if (one == other || !within(days, 1, 30) || !within(thieves, 0, 10)) {
            return refuse(NO_NUMBER);
        }
        if (!world.isLord(one) || !world.isLord(other)) {
            return refuse(NO_SUCH);
        }
        if (world.many(World.ROADS) >= MOST_ROADS) {
            return refuse(NO_ROOM);
        }
        return accept(world.addRoad(one, other, days, thieves));
    }

    public int way(int from, int to, int what) {
        if (!world.isLord(from) || !world.isLord(to)) {
            return NONE;
        }
        return ways.answer(world, from, to, what);
    }

    public int ring(int i) {
        return ways.ofRing(world, i);
    }

    public int shelf(int good, int lord) {
        if (lord < NONE) {
            return refuse(NO_NUMBER);
        }
        if (!world.isGood(good) || lord != NONE && !world.isLord(lord)) {
            return refuse(NO_SUCH);
        }
        int was = world.toldHolder(good);
        world.tellHolder(good, lord);
        return accept(was);
    }

    public int found(int n, int what) {
        if (!within(n, 0, Shelves.MOST_GIFTS) || !within(what, 0, 2 * n)) {
            return NONE;
        }
        return shelves.answer(world, n, what);
    }

    public int beats(int lord, int other, int i) {
        if (!world.isLord(lord) || !world.isLord(other) || lord == other || i < NONE) {
            return NONE;
        }
        return shelves.beating(world, lord, other, i);
    }

    public int generation(int seed, int n) {
        if (!within(seed, 0, 1000000) || !within(n, 1, 50)) {
            return refuse(NO_NUMBER);
        }
        if (world.many(World.LORDS) == 0) {
            return refuse(NOT_NOW);
        }
        return accept(deeds.playOut(world, seed, n));
    }

    public int drawn(int lord, int what) {
        World latestDrawn = deeds.latestDrawn();
        return latestDrawn.isLord(lord) ? latestDrawn.seenOf(lord, what) : NONE;
    }

    public int image(int k) {
        if (!within(k, 0, 1)) {
            return refuse(NO_NUMBER);
        }
        World kept = k == 0 ? firstImage : secondImage;
        kept.copyFrom(world);
        kept.markKept();
        return accept(0);
    }

    public int back(int k) {
        if (!within(k, 0, 1)) {
            return refuse(NO_NUMBER);
        }
        World kept = k == 0 ? firstImage : secondImage;
        if (!kept.isKept()) {
            return refuse(NO_SUCH);
        }
        world.copyFrom(kept);
        past.clear();
        return accept(0);
    }

    public int count(int what) {
        if (within(what, World.LORDS, World.LAWS)) {
            return world.many(what);
        }
        if (within(what, 14, 16)) {
            return world.term(what - 14);
        }
        switch (what) {
            case 5:
                return world.standing();
            case 6:
                return past.size();
            case 7:
                return reader.length();
            case 8:
                return refusals[-NO_NUMBER];
            case 9:
                return refusals[-NO_SUCH];
            case 10:
                return refusals[-NOT_NOW];
            case 11:
                return refusals[-NO_ROOM];
            case 12:
                return refusals[-NO_TEXT];
            case 13:
                return world.inForce();
            default:
                return NONE;
        }
    }

    public int status() {
        return latest;
    }

    /** All that IMAGES keep, numbers in one row: to keep, to undo and to go back are copies of it. */
    private static final class World {
        static final int YEAR = 0;
        static final int GRACE = 1;
        static final int MOOD = 2;

        static final int GRAIN = 0;
        static final int HARVEST = 1;
        static final int RUINED = 2;
        static final int FOULS = 3;
        static final int LOST = 4;
        static final int WON = 5;

        static final int HOLDER = 0;
        static final int OWNER = 1;
        static final int BASE = 2;
        static final int KEEP = 3;
        static final int GIVEN = 4;

        static final int LORDS = 0;
        static final int GOODS = 1;
        static final int HERALDS = 2;
        static final int ROADS = 3;
        static final int LAWS = 4;

        static final int ONE = 0;
        static final int OTHER = 1;
        static final int DAYS = 2;
        static final int THIEVES = 3;

        private static final int LORD_SIZE = 6;
        private static final int GOOD_SIZE = 5;
        private static final int ROAD_SIZE = 4;
        private static final int LORD_AT = 3;
        private static final int GOOD_AT = LORD_AT + MOST_LORDS * LORD_SIZE;
        private static final int DEBT_AT = GOOD_AT + MOST_GOODS * GOOD_SIZE;
        private static final int SINCE_AT = DEBT_AT + MOST_LORDS * MOST_LORDS;
        /** What stands ahead of this place is changed by gifts and years; what stands behind it is not. */
        static final int UNDONE = SINCE_AT + MOST_LORDS * MOST_LORDS;
        private static final int MANY_AT = UNDONE;
        private static final int FORCE_AT = MANY_AT + 5;
        private static final int TOLD_AT = FORCE_AT + 1;
        private static final int PRICE_AT = TOLD_AT + MOST_GOODS;
        private static final int ROAD_AT = PRICE_AT + MOST_HERALDS;
        private static final int SIZE = ROAD_AT + MOST_ROADS * ROAD_SIZE;

        private final int[] cells = new int[SIZE];
        private final Text[] laws = new Text[MOST_LAWS];
        private boolean kept = false;

        World() {
            cells[GRACE] = 1;
            cells[FORCE_AT] = NONE;
            Arrays.fill(cells, DEBT_AT, SINCE_AT, NONE);
            Arrays.fill(cells, TOLD_AT, PRICE_AT, NONE);
        }

        void copyFrom(World other) {
            System.arraycopy(other.cells, 0, cells, 0, SIZE);
            for (int i = 0; i < MOST_LAWS; i++) {
                laws[i] = other.laws[i];
            }
        }

        void markKept() {
            kept = true;
        }

        boolean isKept() {
            return kept;
        }

        /** Hands what gifts and years change over to the row, from the place on. */
        void saveTo(int[] row, int place) {
            System.arraycopy(cells, 0, row, place, UNDONE);
        }

        void restoreFrom(int[] row, int place) {
            System.arraycopy(row, place, cells, 0, UNDONE);
        }

        boolean isLord(int number) {
            return number >= 0 && number < cells[MANY_AT + LORDS];
        }

        boolean isGood(int number) {
            return number >= 0 && number < cells[MANY_AT + GOODS];
        }

        int term(int what) {
            return cells[what];
        }

        void setTerm(int what, int value) {
            cells[what] = value;
        }

        int many(int kind) {
            return cells[MANY_AT + kind];
        }

        int lordAt(int lord, int field) {
            return cells[LORD_AT + lord * LORD_SIZE + field];
        }

        void setLord(int lord, int field, int value) {
            cells[LORD_AT + lord * LORD_SIZE + field] = value;
        }

        void oneMoreOf(int lord, int field) {
            cells[LORD_AT + lord * LORD_SIZE + field]++;
        }

        boolean isRuined(int lord) {
            return cells[LORD_AT + lord * LORD_SIZE + RUINED] != 0;
        }

        int goodAt(int good, int field) {
            return cells[GOOD_AT + good * GOOD_SIZE + field];
        }

        void setGood(int good, int field, int value) {
            cells[GOOD_AT + good * GOOD_SIZE + field] = value;
        }

        boolean isOwnedAndHeld(int good, int lord) {
            int place = GOOD_AT + good * GOOD_SIZE;
            return cells[place + HOLDER] == lord && cells[place + OWNER] == lord;
        }

        int roadAt(int road, int field) {
            return cells[ROAD_AT + road * ROAD_SIZE + field];
        }

        int price(int herald) {
            return cells[PRICE_AT + herald];
        }

        int toldHolder(int good) {
            return cells[TOLD_AT + good];
        }

        void tellHolder(int good, int lord) {
            cells[TOLD_AT + good] = lord;
        }

        int inForce() {
            return cells[FORCE_AT];
        }

        void setForce(int law) {
            cells[FORCE_AT] = law;
        }

        /** The LAW in FORCE, or null. */
        Text lawInForce() {
            int law = cells[FORCE_AT];
            return law >= 0 && law < cells[MANY_AT + LAWS] ? laws[law] : null;
        }

        int addLord(int grain, int harvest) {
            int lord = cells[MANY_AT + LORDS]++;
            int place = LORD_AT + lord * LORD_SIZE;
            Arrays.fill(cells, place, place + LORD_SIZE, 0);
            cells[place + GRAIN] = grain;
            cells[place + HARVEST] = harvest;
            return lord;
        }

        int addGood(int holder, int base, int keep) {
            int good = cells[MANY_AT + GOODS]++;
            int place = GOOD_AT + good * GOOD_SIZE;
            cells[place + HOLDER] = holder;
            cells[place + OWNER] = holder;
            cells[place + BASE] = base;
            cells[place + KEEP] = keep;
            cells[place + GIVEN] = 0;
            return good;
        }

        int addHerald(int price) {
            int herald = cells[MANY_AT + HERALDS]++;
            cells[PRICE_AT + herald] = price;
            return herald;
        }

        int addRoad(int one, int other, int days, int thieves) {
            int road = cells[MANY_AT + ROADS]++;
            int place = ROAD_AT + road * ROAD_SIZE;
            cells[place + ONE] = one;
            cells[place + OTHER] = other;
            cells[place + DAYS] = days;
            cells[place + THIEVES] = thieves;
            return road;
        }

        int addLaw(Text text) {
            int law = cells[MANY_AT + LAWS]++;
            laws[law] = text;
            return law;
        }

        /** What of() and drawn() both answer; the cost aside, which is asked of the LAW. */
        int seenOf(int lord, int what) {
            if (what >= GRAIN && what <= WON) {
                return lordAt(lord, what);
            }
            return what == 6 ? held(lord) : NONE;
        }

        private int held(int lord) {
            int sum = 0;
            for (int good = 0; good < many(GOODS); good++) {
                if (goodAt(good, HOLDER) == lord) {
                    sum++;
                }
            }
            return sum;
        }

        /** The WORTH of the challenge that stands, or NONE: a challenge of WORTH 0 stands, too. */
        int worthOwed(int against, int from) {
            return cells[DEBT_AT + against * MOST_LORDS + from];
        }

        int since(int against, int from) {
            return cells[SINCE_AT + against * MOST_LORDS + from];
        }

        void stand(int against, int from, int worth, int year) {
            cells[DEBT_AT + against * MOST_LORDS + from] = worth;
            cells[SINCE_AT + against * MOST_LORDS + from] = year;
        }

        void settle(int against, int from) {
            cells[DEBT_AT + against * MOST_LORDS + from] = NONE;
        }

        int standingAgainst(int lord) {
            int sum = 0;
            for (int from = 0; from < MOST_LORDS; from++) {
                if (worthOwed(lord, from) != NONE) {
                    sum++;
                }
            }
            return sum;
        }

        int standing() {
            int sum = 0;
            for (int lord = 0; lord < MOST_LORDS; lord++) {
                sum += standingAgainst(lord);
            }
            return sum;
        }

        int greatestCreditor(int lord) {
            int best = NONE;
            int most = NONE;
            for (int from = 0; from < MOST_LORDS; from++) {
                if (worthOwed(lord, from) > most) {
                    most = worthOwed(lord, from);
                    best = from;
                }
            }
            return best;
        }
    }

    /** The latest gifts and years that can be undone: what stood ahead of each, in a ring of rows. */
    private static final class Past {
        private static final int KEPT = 16;

        private final int[] rows = new int[KEPT * World.UNDONE];
        private final int[] kinds = new int[KEPT];
        private int next = 0;
        private int size = 0;

        int size() {
            return size;
        }

        void clear() {
            size = 0;
        }

        void copyFrom(Past other) {
            System.arraycopy(other.rows, 0, rows, 0, rows.length);
            System.arraycopy(other.kinds, 0, kinds, 0, kinds.length);
            next = other.next;
            size = other.size;
        }

        void keep(World world, int kind) {
            world.saveTo(rows, next * World.UNDONE);
            kinds[next] = kind;
            next = (next + 1) % KEPT;
            size = Math.min(size + 1, KEPT);
        }

        /** What was undone, or NONE. */
        int takeBack(World world) {
            if (size <= 0) {
                return NONE;
            }
            size--;
            next = (next + KEPT - 1) % KEPT;
            world.restoreFrom(rows, next * World.UNDONE);
            return kinds[next];
        }
    }

    /** A TEXT as read: its CLAUSES, and the SUMS and TESTS of these in postfix order in one row. */
    private static final class Text {
        /** Beyond what any SUM can be. */
        static final int BROKEN = -2000000000;
        static final int MOST_CLAUSES = 12;
        /** Each act comes from a TOKEN of its own, so there are no more than bytes. */
        static final int MOST_ACTS = 400;
        /** Eight brackets keep two numbers waiting each; the rest is room to spare. */
        static final int STACK_SIZE = 32;

        static final int NUMBER = 0;
        static final int WORD = 1;
        static final int PLUS = 2;
        static final int MINUS = 3;
        static final int TIMES = 4;
        static final int DIVIDED = 5;
        static final int LEFT = 6;
        static final int LESS = 7;
        static final int MORE = 8;
        static final int SAME = 9;
        static final int NOT = 10;
        static final int AND = 11;
        static final int OR = 12;

        static final int KIND = 0;
        static final int RUNS = 1;
        static final int TEST = 2;
        static final int FIRST = 4;
        static final int SECOND = 6;
        private static final int CLAUSE_SIZE = 8;
        private static final int LIMIT = 1000000000;

        private final int[] acts;
        private final int[] args;
        private final int[] clauses;
        private int size;
        private int many;

        Text(int mostActs, int mostClauses) {
            acts = new int[Math.max(mostActs, 0)];
            args = new int[Math.max(mostActs, 0)];
            clauses = new int[Math.max(mostClauses, 0) * CLAUSE_SIZE];
            size = 0;
            many = 0;
        }

        void empty() {
            size = 0;
            many = 0;
        }

        int clauses() {
            return many;
        }

        int size() {
            return size;
        }

        int add(int act, int arg) {
            if (size < acts.length) {
                acts[size] = act;
                args[size] = arg;
                size++;
            }
            return size - 1;
        }

        /** A jump of "or", "and" goes to where the acts stand now. */
        void landHere(int jump) {
            if (jump >= 0 && jump < size) {
                args[jump] = size;
            }
        }

        int open(int kind) {
            if ((many + 1) * CLAUSE_SIZE <= clauses.length) {
                Arrays.fill(clauses, many * CLAUSE_SIZE, (many + 1) * CLAUSE_SIZE, 0);
                clauses[many * CLAUSE_SIZE + KIND] = kind;
                clauses[many * CLAUSE_SIZE + RUNS] = 1;
                many++;
            }
            return many - 1;
        }

        int part(int clause, int field) {
            return clauses[clause * CLAUSE_SIZE + field];
        }

        void setPart(int clause, int field, int value) {
            clauses[clause * CLAUSE_SIZE + field] = value;
        }

        /** A copy of its own, no longer than it must be: what is kept is counted. */
        Text trimmed() {
            Text copy = new Text(size, many);
            System.arraycopy(acts, 0, copy.acts, 0, size);
            System.arraycopy(args, 0, copy.args, 0, size);
            System.arraycopy(clauses, 0, copy.clauses, 0, many * CLAUSE_SIZE);
            copy.size = size;
            copy.many = many;
            return copy;
        }

        /** Whether the "if" of the CLAUSE is so, and not BROKEN; without one it is so. */
        boolean isSo(int clause, int[] words, int[] stack) {
            int place = clause * CLAUSE_SIZE + TEST;
            if (clauses[place] >= clauses[place + 1]) {
                return true;
            }
            return value(clauses[place], clauses[place + 1], words, stack) == 1;
        }

        /** The SUM of the CLAUSE, FIRST or SECOND, or BROKEN. */
        int sum(int clause, int which, int[] words, int[] stack) {
            int place = clause * CLAUSE_SIZE + which;
            return value(clauses[place], clauses[place + 1], words, stack);
        }

        /** One loop without helpers: it stands at the end of the longest row of calls. */
        private int value(int from, int to, int[] words, int[] stack) {
            int top = 0;
            int at = from < 0 ? 0 : from;
            int end = to > size ? size : to;
            while (at < end) {
                int act = acts[at];
                int arg = args[at];
                at++;
                if (act == NUMBER || act == WORD) {
                    if (top >= stack.length || act == WORD && (arg < 0 || arg >= words.length)) {
                        return BROKEN;
                    }
                    stack[top] = act == WORD ? words[arg] : arg;
                    top++;
                } else if (top < (act <= SAME ? 2 : 1)) {
                    return BROKEN;
                } else if (act == NOT) {
                    stack[top - 1] = 1 - stack[top - 1];
                } else if (act == AND || act == OR) {
                    if ((stack[top - 1] == 1) == (act == OR)) {
                        at = arg > at ? arg : at;
                    } else {
                        top--;
                    }
                } else {
                    long right = stack[top - 1];
                    long left = stack[top - 2];
                    if (right == 0 && (act == DIVIDED || act == LEFT)) {
                        return BROKEN;
                    }
                    long answer;
                    switch (act) {
                        case PLUS: answer = left + right; break;
                        case MINUS: answer = left - right; break;
                        case TIMES: answer = left * right; break;
                        case DIVIDED: answer = left / right; break;
                        case LEFT: answer = left % right; break;
                        case LESS: answer = left < right ? 1 : 0; break;
                        case MORE: answer = left > right ? 1 : 0; break;
                        default: answer = left == right ? 1 : 0; break;
                    }
                    if (answer > LIMIT || answer < -LIMIT) {
                        return BROKEN;
                    }
                    top--;
                    stack[top - 1] = (int) answer;
                }
            }
            return top == 1 ? stack[0] : BROKEN;
        }
    }

    /** The TAPE, and how TEXTS of both languages are read from it. */
    private static final class Reader {
        private static final int TAPE_SIZE = 400;
        private static final int MOST_PARTS = 50;
        private static final int MOST_BRACKETS = 8;
        private static final int MOST_NUMBER = 1000;
        private static final int MOST_TIMES = 20;

        /** A TOKEN's kind: one of these three, the byte itself, or a word's number, which is beyond all bytes. */
        private static final int THE_END = -1;
        private static final int A_NUMBER = -2;
        private static final int STRANGE = -3;
        private static final int FIRST_WORD = 256;
        private static final String WORDS = "worth keeps bars if or and not give to wait times good base keep given giver year herald mood goods done last grain holder owed";
        static final int WORTH = FIRST_WORD;
        static final int KEEPS = FIRST_WORD + 1;
        static final int BARS = FIRST_WORD + 2;
        private static final int IF = FIRST_WORD + 3;
        private static final int OR = FIRST_WORD + 4;
        private static final int AND = FIRST_WORD + 5;
        private static final int NOT = FIRST_WORD + 6;
        static final int GIVE = FIRST_WORD + 7;
        private static final int TO = FIRST_WORD + 8;
        static final int WAIT = FIRST_WORD + 9;
        private static final int TIMES = FIRST_WORD + 10;
        private static final int GOOD = FIRST_WORD + 11;
        private static final int GIVER = FIRST_WORD + 15;
        private static final int YEAR = FIRST_WORD + 16;
        private static final int MOOD = FIRST_WORD + 18;
        private static final int GOODS = FIRST_WORD + 19;
        private static final int LAST = FIRST_WORD + 21;
        private static final int GRAIN = FIRST_WORD + 22;
        private static final int HOLDER = FIRST_WORD + 23;
        private static final int OWED = FIRST_WORD + 24;

        private final int[] tape = new int[TAPE_SIZE];
        private final int[] kinds = new int[TAPE_SIZE + 1];
        private final int[] numbers = new int[TAPE_SIZE + 1];
        private final int[] places = new int[TAPE_SIZE + 1];
        private final Text text = new Text(Text.MOST_ACTS, Text.MOST_CLAUSES);
        private int length = 0;
        private int fault = NONE;
        private boolean isLaw = false;
        private int parts = 0;
        private int at = 0;
        private int token = THE_END;

        int length() {
            return length;
        }

        boolean hasRoom(int bytes) {
            return length + bytes <= TAPE_SIZE;
        }

        void append(int four) {
            for (int shift = 24; shift >= 0 && length < TAPE_SIZE; shift -= 8) {
                tape[length] = (four >>> shift) & 255;
                length++;
            }
        }

        void cut(int n) {
            length = n;
        }

        int byteAt(int place) {
            return place >= 0 && place < length ? tape[place] : 0;
        }

        /** What the latest reads() read. */
        Text text() {
            return text;
        }

        int faultPlace() {
            return fault;
        }

        /** Whether the TAPE is a TEXT of LAWS (else of ORDERS); where not, the FAULT is kept. */
        boolean reads(boolean law) {
            isLaw = law;
            parts = 0;
            fault = NONE;
            text.empty();
            scan();
            at = 0;
            token = kinds[0];
            boolean can = isLaw ? lawClause() : orderClause();
            for (int i = 1; i <= Text.MOST_CLAUSES && can && token == ';'; i++) {
                advance();
                if (i == Text.MOST_CLAUSES) {
                    can = wrong();
                } else {
                    can = isLaw ? lawClause() : orderClause();
                }
            }
            return can && (token == THE_END || wrong());
        }

        private void scan() {
            int many = 0;
            int from = 0;
            while (from < length) {
                int sign = tape[from];
                int to = from + 1;
                if (isLetter(sign)) {
                    while (to < length && isLetter(tape[to])) {
                        to++;
                    }
                    kinds[many] = wordOf(from, to);
                } else if (isDigit(sign)) {
                    while (to < length && isDigit(tape[to])) {
                        to++;
                    }
                    kinds[many] = A_NUMBER;
                    numbers[many] = numberOf(from, to);
                } else {
                    kinds[many] = sign;
                }
                places[many] = from;
                if (sign != ' ') {
                    many++;
                }
                from = to;
            }
            kinds[many] = THE_END;
            places[many] = length;
        }

        private static boolean isLetter(int sign) {
            return sign >= 'a' && sign <= 'z';
        }

        private static boolean isDigit(int sign) {
            return sign >= '0' && sign <= '9';
        }

        /** Anything above what a NUMBER may be is as good as any other. */
        private int numberOf(int from, int to) {
            int sum = 0;
            for (int i = from; i < to; i++) {
                sum = Math.min(sum * 10 + tape[i] - '0', MOST_NUMBER + 1);
            }
            return sum;
        }

        private int wordOf(int from, int to) {
            int word = FIRST_WORD;
            int matched = 0;
            for (int i = 0; i <= WORDS.length(); i++) {
                int sign = i < WORDS.length() ? WORDS.charAt(i) : ' ';
                if (sign != ' ') {
                    boolean same = matched >= 0 && from + matched < to && tape[from + matched] == sign;
                    matched = same ? matched + 1 : -1;
                } else if (matched == to - from) {
                    return word;
                } else {
                    word++;
                    matched = 0;
                }
            }
            return STRANGE;
        }

        private void advance() {
            if (token != THE_END && at < TAPE_SIZE) {
                at++;
                token = kinds[at];
            }
        }

        private boolean wrong() {
            fault = places[at];
            return false;
        }

        private boolean lawClause() {
            if (token < WORTH || token > BARS) {
                return wrong();
            }
            int kind = token;
            int clause = text.open(kind);
            advance();
            return (kind == BARS || sumOf(clause, Text.FIRST)) && condition(clause);
        }

        private boolean orderClause() {
            if (token != GIVE && token != WAIT) {
                return wrong();
            }
            int kind = token;
            int clause = text.open(kind);
            advance();
            if (kind == GIVE) {
                if (!sumOf(clause, Text.FIRST)) {
                    return false;
                }
                if (token != TO) {
                    return wrong();
                }
                advance();
                if (!sumOf(clause, Text.SECOND)) {
                    return false;
                }
            }
            return times(clause) && condition(clause);
        }

        private boolean times(int clause) {
            if (token != TIMES) {
                return true;
            }
            advance();
            if (token != A_NUMBER || numbers[at] < 1 || numbers[at] > MOST_TIMES) {
                return wrong();
            }
            text.setPart(clause, Text.RUNS, numbers[at]);
            advance();
            return true;
        }

        private boolean condition(int clause) {
            if (token != IF) {
                return true;
            }
            advance();
            text.setPart(clause, Text.TEST, text.size());
            boolean can = test(0);
            text.setPart(clause, Text.TEST + 1, text.size());
            return can;
        }

        private boolean sumOf(int clause, int which) {
            text.setPart(clause, which, text.size());
            boolean can = sum(0);
            text.setPart(clause, which + 1, text.size());
            return can;
        }

        private boolean test(int depth) {
            boolean can = both(depth);
            for (int i = 0; i < TAPE_SIZE && can && token == OR; i++) {
                int jump = text.add(Text.OR, 0);
                advance();
                can = both(depth);
                text.landHere(jump);
            }
            return can;
        }

        private boolean both(int depth) {
            boolean can = plain(depth);
            for (int i = 0; i < TAPE_SIZE && can && token == AND; i++) {
                int jump = text.add(Text.AND, 0);
                advance();
                can = plain(depth);
                text.landHere(jump);
            }
            return can;
        }

        /** A row of "not" is counted, not gone into: its length has no limit but the TAPE's. */
        private boolean plain(int depth) {
            boolean turned = false;
            for (int i = 0; i < TAPE_SIZE && token == NOT; i++) {
                turned = !turned;
                advance();
            }
            boolean can = token == '(' ? bracketed(depth, '(', ')') : comparison(depth);
            if (can && turned) {
                text.add(Text.NOT, 0);
            }
            return can;
        }

        /** What stands in brackets: a TEST in round ones, a SUM in square ones. */
        private boolean bracketed(int depth, int opening, int closing) {
            if (token != opening || depth >= MOST_BRACKETS) {
                return wrong();
            }
            advance();
            boolean can = opening == '(' ? test(depth + 1) : sum(depth + 1);
            if (!can) {
                return false;
            }
            if (token != closing) {
                return wrong();
            }
            advance();
            return true;
        }

        private boolean comparison(int depth) {
            if (!sum(depth)) {
                return false;
            }
            int act = token == '<' ? Text.LESS : token == '>' ? Text.MORE : Text.SAME;
            if (act == Text.SAME && token != '=') {
                return wrong();
            }
            advance();
            boolean can = sum(depth);
            text.add(act, 0);
            return can;
        }

        private boolean sum(int depth) {
            boolean can = term(depth);
            for (int i = 0; i < TAPE_SIZE && can && (token == '+' || token == '-'); i++) {
                int act = token == '+' ? Text.PLUS : Text.MINUS;
                advance();
                can = term(depth);
                text.add(act, 0);
            }
            return can;
        }

        private boolean term(int depth) {
            boolean can = part(depth);
            for (int i = 0; i < TAPE_SIZE && can && (token == '*' || token == '/' || token == '%'); i++) {
                int act = token == '*' ? Text.TIMES : token == '/' ? Text.DIVIDED : Text.LEFT;
                advance();
                can = part(depth);
                text.add(act, 0);
            }
            return can;
        }

        private boolean part(int depth) {
            if (token == '[') {
                return bracketed(depth, '[', ']');
            }
            boolean isNumber = token == A_NUMBER && numbers[at] <= MOST_NUMBER;
            int word = isLaw ? lawWord() : orderWord();
            if (parts >= MOST_PARTS || !isNumber && word == NONE) {
                return wrong();
            }
            parts++;
            int named = token;
            int value = isNumber ? numbers[at] : word;
            advance();
            if (!isLaw && !isNumber && named >= GRAIN) {
                int most = named == HOLDER ? MOST_GOODS - 1 : MOST_LORDS - 1;
                if (token != A_NUMBER || numbers[at] > most) {
                    return wrong();
                }
                value += numbers[at];
                advance();
            }
            text.add(isNumber ? Text.NUMBER : Text.WORD, value);
            return true;
        }

        private int lawWord() {
            if (token >= GOOD && token <= GIVER) {
                return token - GOOD + Judge.GOOD;
            }
            if (token >= YEAR && token <= MOOD) {
                return token - YEAR + Judge.YEAR;
            }
            return token == TO ? Judge.TO : NONE;
        }

        /** Of the words with a NUMBER behind them: where the first of these stands. */
        private int orderWord() {
            if (token >= GOODS && token <= LAST) {
                return token - GOODS + Orders.GOODS;
            }
            switch (token) {
                case YEAR:
                    return Orders.YEAR;
                case GRAIN:
                    return Orders.GRAIN;
                case HOLDER:
                    return Orders.HOLDER;
                case OWED:
                    return Orders.OWED;
                default:
                    return NONE;
            }
        }
    }

    /** What the LAW in FORCE says of a GOOD. */
    private static final class Judge {
        static final int GOOD = 0;
        static final int BASE = 1;
        static final int KEEP = 2;
        static final int GIVEN = 3;
        static final int GIVER = 4;
        static final int TO = 5;
        static final int YEAR = 6;
        static final int HERALD = 7;
        static final int MOOD = 8;

        private final int[] words = new int[MOOD + 1];
        private final int[] stack = new int[Text.STACK_SIZE];
        private final int[] voices = new int[MOST_HERALDS];

        int worth(World world, int good, int giver, int to) {
            ask(world, good, world.term(World.YEAR));
            words[GIVER] = giver;
            words[TO] = to;
            return told(world.lawInForce(), Reader.WORTH, world.goodAt(good, World.BASE), MOST_WORTH);
        }

        boolean bars(World world, int good, int giver, int to) {
            Text law = world.lawInForce();
            if (law == null) {
                return false;
            }
            ask(world, good, world.term(World.YEAR));
            words[GIVER] = giver;
            words[TO] = to;
            for (int i = 0; i < law.clauses(); i++) {
                if (law.part(i, Text.KIND) == Reader.BARS && law.isSo(i, words, stack)) {
                    return true;
                }
            }
            return false;
        }

        int costs(World world, int good, int holder, int year) {
            ask(world, good, year);
            words[TO] = holder;
            return told(world.lawInForce(), Reader.KEEPS, world.goodAt(good, World.KEEP), MOST_COST);
        }

        /** What all GOODS held by the LORD COST in the YEAR. */
        int upkeep(World world, int lord, int year) {
            int sum = 0;
            for (int good = 0; good < world.many(World.GOODS); good++) {
                if (world.goodAt(good, World.HOLDER) == lord) {
                    ask(world, good, year);
                    words[TO] = lord;
                    sum += told(world.lawInForce(), Reader.KEEPS, world.goodAt(good, World.KEEP), MOST_COST);
                }
            }
            return sum;
        }

        int voice(World world, int herald, int good) {
            ask(world, good, world.term(World.YEAR));
            words[HERALD] = herald;
            return told(world.lawInForce(), Reader.WORTH, world.goodAt(good, World.BASE), MOST_WORTH);
        }

        private void ask(World world, int good, int year) {
            words[GOOD] = good;
            words[BASE] = world.goodAt(good, World.BASE);
            words[KEEP] = world.goodAt(good, World.KEEP);
            words[GIVEN] = world.goodAt(good, World.GIVEN);
            words[GIVER] = NONE;
            words[TO] = NONE;
            words[YEAR] = year;
            words[HERALD] = NONE;
            words[MOOD] = world.term(World.MOOD);
        }

        /** What the last CLAUSE of the kind that HOLDS tells. */
        private int told(Text law, int kind, int without, int most) {
            if (law == null) {
                return without;
            }
            for (int i = law.clauses() - 1; i >= 0; i--) {
                if (law.part(i, Text.KIND) == kind && law.isSo(i, words, stack)) {
                    int sum = law.sum(i, Text.FIRST, words, stack);
                    if (sum != Text.BROKEN) {
                        return Math.max(0, Math.min(most, sum));
                    }
                }
            }
            return without;
        }

        private int hear(World world, int good) {
            int heralds = Math.min(world.many(World.HERALDS), MOST_HERALDS);
            for (int i = 0; i < heralds; i++) {
                voices[i] = voice(world, i, good);
            }
            return heralds;
        }

        /** What the GOOD is worth by all HERALDS; there must be one. */
        int middle(World world, int good) {
            int heralds = hear(world, good);
            for (int i = 1; i < heralds; i++) {
                int moved = voices[i];
                int to = i;
                while (to > 0 && voices[to - 1] > moved) {
                    voices[to] = voices[to - 1];
                    to--;
                }
                voices[to] = moved;
            }
            return heralds > 0 ? voices[(heralds - 1) / 2] : NONE;
        }

        /** The middle one is high enough as soon as it and all behind it are, so only how many matters. */
        int cheapestBribe(World world, int good, int over, int what) {
            int wanted = middle(world, over) + 1;
            if (wanted > MOST_WORTH || what < 0 || what > 1) {
                return NONE;
            }
            int heralds = hear(world, good);
            int needed = heralds - (heralds - 1) / 2;
            int least = NONE;
            int bribed = 0;
            for (int mask = 0; mask < 1 << heralds; mask++) {
                int high = 0;
                int price = 0;
                for (int i = 0; i < heralds; i++) {
                    boolean taken = (mask >> i & 1) == 1;
                    high += taken || voices[i] >= wanted ? 1 : 0;
                    price += taken ? Math.max(0, wanted - voices[i]) * world.price(i) : 0;
                }
                if (high >= needed && (least == NONE || price < least)) {
                    least = price;
                    bribed = mask;
                }
            }
            return what == 0 ? least : bribed;
        }
    }

    /** Gifts and years, in any World: the one that is, or one on paper. */
    private static final class Deeds {
        private final Judge judge;
        private final World paper = new World();
        private long seed = 0;

        Deeds(Judge judge) {
            this.judge = judge;
        }

        boolean mayGive(World world, int good, int to) {
            int giver = world.goodAt(good, World.HOLDER);
            return giver != to && !world.isRuined(giver) && !world.isRuined(to)
                    && !judge.bars(world, good, giver, to);
        }

        /** A gift that mayGive() allowed: its WORTH. */
        int hand(World world, int good, int to) {
            int giver = world.goodAt(good, World.HOLDER);
            int worth = judge.worth(world, good, giver, to);
            world.setGood(good, World.HOLDER, to);
            world.setGood(good, World.GIVEN, world.goodAt(good, World.GIVEN) + 1);
            if (world.goodAt(good, World.OWNER) != giver) {
                world.oneMoreOf(giver, World.FOULS);
            } else {
                challenge(world, giver, to, worth);
            }
            return worth;
        }

        private static void challenge(World world, int giver, int to, int worth) {
            int owed = world.worthOwed(giver, to);
            if (owed != NONE) {
                if (worth <= owed) {
                    return;
                }
                world.settle(giver, to);
            }
            int before = world.worthOwed(to, giver);
            if (before == NONE) {
                world.stand(to, giver, worth, world.term(World.YEAR));
            } else {
                world.stand(to, giver, Math.max(before, worth), world.since(to, giver));
            }
        }

        /** To WAIT; LORDS whose bit is in dry get no HARVEST. How many were RUINED. */
        int passYear(World world, int dry) {
            int year = world.term(World.YEAR) + 1;
            world.setTerm(World.YEAR, year);
            int fallen = 0;
            for (int lord = 0; lord < world.many(World.LORDS); lord++) {
                int harvest = (dry >> lord & 1) == 1 ? 0 : world.lordAt(lord, World.HARVEST);
                int grain = Math.min(MOST_GRAIN, world.lordAt(lord, World.GRAIN) + harvest);
                int left = grain - judge.upkeep(world, lord, year);
                world.setLord(lord, World.GRAIN, Math.max(0, left));
                if (left < 0) {
                    fallen += world.isRuined(lord) ? 0 : 1;
                    world.setLord(lord, World.RUINED, 1);
                    dropAllOf(world, lord);
                }
            }
            loseOld(world, year - world.term(World.GRACE));
            return fallen;
        }

        private static void dropAllOf(World world, int lord) {
            for (int other = 0; other < world.many(World.LORDS); other++) {
                world.settle(lord, other);
                world.settle(other, lord);
            }
        }

        private static void loseOld(World world, int latestLost) {
            for (int against = 0; against < world.many(World.LORDS); against++) {
                for (int from = 0; from < world.many(World.LORDS); from++) {
                    if (world.worthOwed(against, from) != NONE && world.since(against, from) <= latestLost) {
                        world.oneMoreOf(against, World.LOST);
                        world.oneMoreOf(from, World.WON);
                        world.settle(against, from);
                    }
                }
            }
        }

        /** The World behind the latest GENERATION: without LORDS ahead of any. */
        World latestDrawn() {
            return paper;
        }

        /** A GENERATION; there must be a LORD. How many gifts were given. */
        int playOut(World world, int from, int years) {
            paper.copyFrom(world);
            seed = from;
            int lords = paper.many(World.LORDS);
            int goods = paper.many(World.GOODS);
            int gifts = 0;
            for (int i = 0; i < years; i++) {
                if (goods > 0) {
                    int good = draw(goods);
                    int to = draw(lords);
                    if (mayGive(paper, good, to)) {
                        hand(paper, good, to);
                        gifts++;
                    }
                }
                int dry = 0;
                for (int lord = 0; lord < lords; lord++) {
                    dry |= draw(3) == 0 ? 1 << lord : 0;
                }
                if (paper.term(World.YEAR) >= LAST_YEAR) {
                    break;
                }
                passYear(paper, dry);
            }
            return gifts;
        }

        private int draw(int of) {
            seed = (seed * 1103 + 12345) % 1000003;
            return of > 0 ? (int) (seed % of) : 0;
        }
    }

    /** ORDERS are run on the World itself; what it was ahead of them is kept, should one not be possible. */
    private static final class Orders {
        static final int YEAR = 0;
        static final int GOODS = 1;
        static final int DONE = 2;
        static final int LAST = 3;
        static final int GRAIN = 4;
        static final int HOLDER = GRAIN + MOST_LORDS;
        static final int OWED = HOLDER + MOST_GOODS;

        private final Deeds deeds;
        private final World aheadWorld = new World();
        private final Past aheadPast = new Past();
        private final int[] words = new int[OWED + MOST_LORDS];
        private final int[] stack = new int[Text.STACK_SIZE];
        private int stoppedClause = NONE;
        private int done = 0;
        private int last = NONE;

        Orders(Deeds deeds) {
            this.deeds = deeds;
        }

        int stoppedAt() {
            return stoppedClause;
        }

        void forget() {
            stoppedClause = NONE;
        }

        /** How many were run, or NONE: one can't be. */
        int run(Text text, World world, Past past) {
            aheadWorld.copyFrom(world);
            aheadPast.copyFrom(past);
            stoppedClause = NONE;
            done = 0;
            last = NONE;
            for (int clause = 0; clause < text.clauses(); clause++) {
                int times = text.part(clause, Text.RUNS);
                for (int i = 0; i < times; i++) {
                    if (!step(text, clause, world, past)) {
                        world.copyFrom(aheadWorld);
                        past.copyFrom(aheadPast);
                        stoppedClause = clause;
                        return NONE;
                    }
                }
            }
            return done;
        }

        private boolean step(Text text, int clause, World world, Past past) {
            look(world);
            if (!text.isSo(clause, words, stack)) {
                return true;
            }
            if (text.part(clause, Text.KIND) == Reader.WAIT) {
                if (world.term(World.YEAR) >= LAST_YEAR) {
                    return false;
                }
                past.keep(world, YEAR_PASSED);
                deeds.passYear(world, 0);
            } else {
                int good = text.sum(clause, Text.FIRST, words, stack);
                int to = text.sum(clause, Text.SECOND, words, stack);
                if (!world.isGood(good) || !world.isLord(to) || !deeds.mayGive(world, good, to)) {
                    return false;
                }
                past.keep(world, GIFT);
                last = deeds.hand(world, good, to);
            }
            done++;
            return true;
        }

        private void look(World world) {
            words[YEAR] = world.term(World.YEAR);
            words[GOODS] = world.many(World.GOODS);
            words[DONE] = done;
            words[LAST] = last;
            for (int lord = 0; lord < MOST_LORDS; lord++) {
                boolean is = world.isLord(lord);
                words[GRAIN + lord] = is ? world.lordAt(lord, World.GRAIN) : NONE;
                words[OWED + lord] = is ? world.standingAgainst(lord) : NONE;
            }
            for (int good = 0; good < MOST_GOODS; good++) {
                words[HOLDER + good] = world.isGood(good) ? world.goodAt(good, World.HOLDER) : NONE;
            }
        }
    }

    /** A DUEL of two, played out on paper. WORTHS only rise in it, so no GOOD can come twice. */
    private static final class Duels {
        private static final int MOST = 6;

        private final Judge judge;
        private final int[] goods = new int[2 * MOST];
        private final int[] worths = new int[2 * MOST];
        private final int[] costs = new int[2 * MOST];
        private final int[] many = new int[2];
        private final int[] grains = new int[2];

        Duels(Judge judge) {
            this.judge = judge;
        }

        int answer(World world, int first, int other, int what) {
            gather(world, 0, first, other);
            gather(world, 1, other, first);
            switch (what) {
                case 0:
                    return wins(0, NONE, grains[0], grains[1], 0) ? first : other;
                case 1:
                    return winning();
                case 2:
                    int slot = lowestWinning(0, NONE, grains[0], grains[1]);
                    return slot == NONE ? NONE : goods[slot];
                case 3:
                    return length();
                default:
                    return NONE;
            }
        }

        private void gather(World world, int side, int giver, int to) {
            grains[side] = world.lordAt(giver, World.GRAIN);
            many[side] = 0;
            int year = world.term(World.YEAR);
            int seen = 0;
            for (int good = 0; good < world.many(World.GOODS) && seen < MOST; good++) {
                if (world.isOwnedAndHeld(good, giver)) {
                    seen++;
                    if (!judge.bars(world, good, giver, to)) {
                        int slot = side * MOST + many[side];
                        goods[slot] = good;
                        worths[slot] = judge.worth(world, good, giver, to);
                        costs[slot] = judge.costs(world, good, to, year);
                        many[side]++;
                    }
                }
            }
        }

        /** Whether the side whose turn it is wins, if the latest gift was of that WORTH. */
        private boolean wins(int side, int latestWorth, int own, int others, int depth) {
            for (int i = 0; i < many[side] && depth <= 2 * MOST; i++) {
                int slot = side * MOST + i;
                if (worths[slot] > latestWorth && winsBy(slot, own, others, depth)) {
                    return true;
                }
            }
            return false;
        }

        private boolean winsBy(int slot, int own, int others, int depth) {
            int left = others - costs[slot];
            return left < 0 || !wins(1 - slot / MOST, worths[slot], left, own, depth + 1);
        }

        private int winning() {
            int sum = 0;
            for (int slot = 0; slot < many[0]; slot++) {
                sum += winsBy(slot, grains[0], grains[1], 0) ? 1 : 0;
            }
            return sum;
        }

        private int lowestWinning(int side, int latestWorth, int own, int others) {
            for (int i = 0; i < many[side]; i++) {
                int slot = side * MOST + i;
                if (worths[slot] > latestWorth && winsBy(slot, own, others, 0)) {
                    return slot;
                }
            }
            return NONE;
        }

        private int lowestPossible(int side, int latestWorth) {
            for (int i = 0; i < many[side]; i++) {
                if (worths[side * MOST + i] > latestWorth) {
                    return side * MOST + i;
                }
            }
            return NONE;
        }

        private int length() {
            int own = grains[0];
            int others = grains[1];
            int latestWorth = NONE;
            for (int given = 0; given < 2 * MOST; given++) {
                int side = given % 2;
                int slot = lowestWinning(side, latestWorth, own, others);
                if (slot == NONE) {
                    slot = lowestPossible(side, latestWorth);
                }
                if (slot == NONE) {
                    return given;
                }
                int left = others - costs[slot];
                if (left < 0) {
                    return given + 1;
                }
                latestWorth = worths[slot];
                others = own;
                own = left;
            }
            return 2 * MOST;
        }
    }

    /** When a granary falls, and by which gifts it falls sooner. */
    private static final class Sieges {
        static final int MOST_YEARS = 9;
        private static final int MOST = 10;

        private final Judge judge;
        private final int[] goods = new int[MOST];
        private final int[] worths = new int[MOST];
        private final int[] costs = new int[MOST * MOST_YEARS];
        private final int[] upkeeps = new int[MOST_YEARS];
        private int many = 0;
        private int grain = 0;
        private int harvest = 0;

        Sieges(Judge judge) {
            this.judge = judge;
        }

        int fallOf(World world, int lord, int years) {
            if (world.isRuined(lord)) {
                return NONE;
            }
            int store = world.lordAt(lord, World.GRAIN);
            int now = world.term(World.YEAR);
            for (int year = now + 1; year <= now + years; year++) {
                store = Math.min(MOST_GRAIN, store + world.lordAt(lord, World.HARVEST));
                store -= judge.upkeep(world, lord, year);
                if (store < 0) {
                    return year;
                }
            }
            return NONE;
        }

        int answer(World world, int from, int to, int years, int what) {
            if (world.isRuined(from) || world.isRuined(to) || what < 0 || what > 2) {
                return NONE;
            }
            gather(world, from, to, years);
            int best = cheapest(years);
            if (best == NONE) {
                return NONE;
            }
            return what == 0 ? Integer.bitCount(best) : what == 1 ? worthOf(best) : bitsOf(best);
        }

        private void gather(World world, int from, int to, int years) {
            int now = world.term(World.YEAR);
            grain = world.lordAt(to, World.GRAIN);
            harvest = world.lordAt(to, World.HARVEST);
            for (int y = 0; y < years; y++) {
                upkeeps[y] = judge.upkeep(world, to, now + 1 + y);
            }
            many = 0;
            int seen = 0;
            for (int good = 0; good < world.many(World.GOODS) && seen < MOST; good++) {
                if (world.isOwnedAndHeld(good, from)) {
                    seen++;
                    if (!judge.bars(world, good, from, to)) {
                        goods[many] = good;
                        worths[many] = judge.worth(world, good, from, to);
                        for (int y = 0; y < years; y++) {
                            costs[many * MOST_YEARS + y] = judge.costs(world, good, to, now + 1 + y);
                        }
                        many++;
                    }
                }
            }
        }

        /** Slots rise with the numbers of their GOODS, so the first mask of alike ones is the lowest. */
        private int cheapest(int years) {
            int all = (1 << many) - 1;
            if (!falls(all, years)) {
                return NONE;
            }
            int best = all;
            int fewest = many;
            int least = worthOf(all);
            for (int mask = 0; mask < all; mask++) {
                int size = Integer.bitCount(mask);
                if (size <= fewest) {
                    int worth = worthOf(mask);
                    if ((size < fewest || worth < least) && falls(mask, years)) {
                        best = mask;
                        fewest = size;
                        least = worth;
                    }
                }
            }
            return best;
        }

        private boolean falls(int mask, int years) {
            int store = grain;
            for (int y = 0; y < years; y++) {
                store = Math.min(MOST_GRAIN, store + harvest) - upkeeps[y];
                for (int slot = 0; slot < many; slot++) {
                    store -= (mask >> slot & 1) * costs[slot * MOST_YEARS + y];
                }
                if (store < 0) {
                    return true;
                }
            }
            return false;
        }

        private int worthOf(int mask) {
            int sum = 0;
            for (int slot = 0; slot < many; slot++) {
                sum += (mask >> slot & 1) * worths[slot];
            }
            return sum;
        }

        private int bitsOf(int mask) {
            int bits = 0;
            for (int slot = 0; slot < many; slot++) {
                bits |= (mask >> slot & 1) << goods[slot];
            }
            return bits;
        }
    }

    /** Roads from LORD to LORD, and challenges that go round. */
    private static final class Ways {
        private static final int MOST_STEPS = 5;

        private final int[] thieves = new int[MOST_LORDS * MOST_LORDS];
        private final int[] days = new int[MOST_LORDS * MOST_LORDS];
        private final int[] path = new int[MOST_LORDS];
        private final int[] best = new int[MOST_LORDS];
        private int lords = 0;
        private int goal = 0;
        private int bestLikely = 0;
        private int bestDays = 0;
        private int bestSteps = NONE;

        int answer(World world, int from, int to, int what) {
            draw(world);
            goal = to;
            bestLikely = 0;
            bestDays = 0;
            bestSteps = NONE;
            path[0] = from;
            walk(0, 1 << from, 100000, 0);
            if (bestSteps == NONE) {
                return NONE;
            }
            switch (what) {
                case 0:
                    return bestLikely;
                case 1:
                    return bestDays;
                case 2:
                    return bestSteps;
                default:
                    return what >= 3 && what - 3 <= bestSteps ? best[what - 3] : NONE;
            }
        }

        /** Of the ROADS between two only the best can be of use: fewest THIEVES, then fewest DAYS. */
        private void draw(World world) {
            lords = Math.min(world.many(World.LORDS), MOST_LORDS);
            Arrays.fill(thieves, 10);
            Arrays.fill(days, 0);
            for (int road = 0; road < world.many(World.ROADS); road++) {
                int one = world.roadAt(road, World.ONE);
                int other = world.roadAt(road, World.OTHER);
                int risk = world.roadAt(road, World.THIEVES);
                int length = world.roadAt(road, World.DAYS);
                int place = one * MOST_LORDS + other;
                if (risk < thieves[place] || risk == thieves[place] && length < days[place]) {
                    int mirrored = other * MOST_LORDS + one;
                    thieves[place] = risk;
                    thieves[mirrored] = risk;
                    days[place] = length;
                    days[mirrored] = length;
                }
            }
        }

        /** LORDS are tried in order, so of alike WAYS the first as a row comes first. */
        private void walk(int steps, int seen, int likely, int daysGone) {
            int here = path[steps];
            if (here == goal) {
                if (likely > bestLikely || likely == bestLikely && daysGone < bestDays) {
                    bestLikely = likely;
                    bestDays = daysGone;
                    bestSteps = steps;
                    System.arraycopy(path, 0, best, 0, steps + 1);
                }
                return;
            }
            for (int lord = 0; lord < lords && steps < MOST_STEPS; lord++) {
                int place = here * MOST_LORDS + lord;
                if ((seen >> lord & 1) == 0 && thieves[place] < 10) {
                    path[steps + 1] = lord;
                    walk(steps + 1, seen | 1 << lord, likely / 10 * (10 - thieves[place]), daysGone + days[place]);
                }
            }
        }

        int ofRing(World world, int i) {
            if (i < NONE || i >= MOST_LORDS) {
                return NONE;
            }
            lords = Math.min(world.many(World.LORDS), MOST_LORDS);
            for (int size = 2; size <= lords; size++) {
                for (int mask = 0; mask < 1 << lords; mask++) {
                    if (Integer.bitCount(mask) == size) {
                        path[0] = Integer.numberOfTrailingZeros(mask);
                        if (closes(world, 0, mask & mask - 1, size)) {
                            return i == NONE ? size : i < size ? path[i] : NONE;
                        }
                    }
                }
            }
            return NONE;
        }

        /** Whether the row can go on by all LORDS that are left, and back to its first. */
        private boolean closes(World world, int steps, int left, int size) {
            int here = path[steps];
            if (left == 0) {
                return world.worthOwed(here, path[0]) != NONE;
            }
            for (int lord = 0; lord < lords && steps + 1 < size; lord++) {
                if ((left >> lord & 1) == 1 && world.worthOwed(here, lord) != NONE) {
                    path[steps + 1] = lord;
                    if (closes(world, steps + 1, left & ~(1 << lord), size)) {
                        return true;
                    }
                }
            }
            return false;
        }
    }

    /** Who gave what, from what SHELVES tell; who BEATS whom. */
    private static final class Shelves {
        static final int MOST_GIFTS = 3;
        private static final int STEPS = MOST_GIFTS + 1;
        private static final int PAIRS = MOST_LORDS * MOST_LORDS;

        private final Judge judge;
        private final boolean[] open = new boolean[MOST_GOODS * PAIRS];
        /** By GOOD, HOLDER, gifts: in how many ways the GOOD comes to where it is TOLD to be. */
        private final int[] walks = new int[MOST_GOODS * MOST_LORDS * STEPS];
        private final int[] holders = new int[MOST_GOODS];
        private final int[] mixed = new int[STEPS];
        private int lords = 0;
        private int goods = 0;
        private int firstGood = NONE;
        private int firstLord = NONE;

        Shelves(Judge judge) {
            this.judge = judge;
        }

        int answer(World world, int n, int what) {
            lords = Math.min(world.many(World.LORDS), MOST_LORDS);
            goods = Math.min(world.many(World.GOODS), MOST_GOODS);
            for (int good = 0; good < goods; good++) {
                holders[good] = world.goodAt(good, World.HOLDER);
                lookAt(world, good, n);
            }
            if (what == 0) {
                return rows(n);
            }
            int wanted = (what - 1) / 2;
            for (int i = 0; i <= wanted; i++) {
                if (!takeFirst(n - 1 - i)) {
                    return NONE;
                }
            }
            return what % 2 == 1 ? firstGood : firstLord;
        }

        private void lookAt(World world, int good, int n) {
            int told = world.toldHolder(good);
            for (int from = 0; from < lords; from++) {
                for (int to = 0; to < lords; to++) {
                    open[good * PAIRS + from * MOST_LORDS + to] = n > 0 && from != to && !world.isRuined(from)
                            && !world.isRuined(to) && !judge.bars(world, good, from, to);
                }
                walks[(good * MOST_LORDS + from) * STEPS] = told == NONE || told == from ? 1 : 0;
            }
            for (int step = 1; step <= n && step < STEPS; step++) {
                for (int from = 0; from < lords; from++) {
                    int sum = 0;
                    for (int to = 0; to < lords; to++) {
                        boolean can = open[good * PAIRS + from * MOST_LORDS + to];
                        sum += can ? walks[(good * MOST_LORDS + to) * STEPS + step - 1] : 0;
                    }
                    walks[(good * MOST_LORDS + from) * STEPS + step] = sum;
                }
            }
        }

        /** GOODS go their ways apart; their gifts are mixed in any order, so chosen places multiply. */
        private int rows(int n) {
            Arrays.fill(mixed, 0);
            mixed[0] = 1;
            for (int good = 0; good < goods; good++) {
                int place = (good * MOST_LORDS + holders[good]) * STEPS;
                for (int all = Math.min(n, MOST_GIFTS); all >= 0; all--) {
                    int sum = 0;
                    for (int own = 0; own <= all; own++) {
                        sum += chosen(all, own) * mixed[all - own] * walks[place + own];
                    }
                    mixed[all] = sum;
                }
            }
            return n >= 0 && n < STEPS ? mixed[n] : 0;
        }

        /** How many ways to choose own of all: for up to three only the middle ones are not 1. */
        private static int chosen(int all, int own) {
            return own == 0 || own == all ? 1 : all;
        }

        /** The first gift behind which rows of so many more are left; it is made on the paper at hand. */
        private boolean takeFirst(int left) {
            for (int good = 0; good < goods; good++) {
                int from = holders[good];
                for (int to = 0; to < lords; to++) {
                    if (open[good * PAIRS + from * MOST_LORDS + to]) {
                        holders[good] = to;
                        if (rows(left) > 0) {
                            firstGood = good;
                            firstLord = to;
                            return true;
                        }
                    }
                }
                holders[good] = from;
            }
            return false;
        }

        int beating(World world, int lord, int other, int i) {
            int most = NONE;
            for (int good = 0; good < world.many(World.GOODS); good++) {
                if (world.goodAt(good, World.HOLDER) == other) {
                    most = Math.max(most, judge.worth(world, good, other, lord));
                }
            }
            int seen = 0;
            for (int good = 0; good < world.many(World.GOODS); good++) {
                if (world.goodAt(good, World.HOLDER) == lord && judge.worth(world, good, lord, other) > most) {
                    if (seen == i) {
                        return good;
                    }
                    seen++;
                }
            }
            return i == NONE ? seen : NONE;
        }
    }
}
