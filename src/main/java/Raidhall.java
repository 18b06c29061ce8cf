/** A hall of raids: matches, texts of steps, a league and an auction. */
public final class Raidhall {
    public static final int NONE = -1;
    public static final int ON = 0, BENCH = 1, OUT = 2, SUSPENDED = 3, GONE = 4;
    public static final int TOUCH = 0, BONUS = 1, BAULK = 2, BACK = 3, FALL = 4, LINE = 5, TIME = 6;

    private static final int CLUBS = 8;
    private static final int SIDES = 2;
    private static final int PLAYERS = 10;
    private static final int STARTERS = 7;
    private static final int EVENTS = 60;
    private static final int LONGEST_RAID = 300;
    private static final int SHORTEST_MATCH = 300;
    private static final int LONGEST_MATCH = 24000;
    private static final int SIGNS = 60;
    private static final int LOTS = 24;
    private static final int FULL_PURSE = 1000;

    /** At most 7 are ON and touched once each; BONUS, BAULK and the end come once. */
    private static final int STEPS = STARTERS + 3;

    private static final int GREEN = 0;
    private static final int YELLOW = 1;
    private static final int RED = 2;

    /** The word of an order that begins a raid; the words of steps are their kinds. */
    private static final int RAID = 7;
    private static final int WORDS = 8;

    private final Contest contest;
    private final Pad pad;
    private final League league;
    private final Auction auction;

    public Raidhall() {
        contest = new Contest();
        pad = new Pad();
        league = new League();
        auction = new Auction();
    }

    // ---- matches

    public int begin(int club, int other, int tenths)
            throws IndexOutOfBoundsException, IllegalArgumentException, IllegalStateException {
        needIndex(club, CLUBS);
        needIndex(other, CLUBS);
        needArgument(club != other && isWithin(tenths, SHORTEST_MATCH, LONGEST_MATCH));
        needState(!contest.isThere());
        return contest.open(club, other, tenths);
    }

    public int raid(int raider) throws IndexOutOfBoundsException, IllegalStateException {
        needIndex(raider, PLAYERS);
        needState(contest.mayStartRaid(raider));
        return contest.startRaid(raider);
    }

    public int step(int kind, int who, int tenth) throws IllegalArgumentException, IllegalStateException {
        needArgument(isStep(kind, who, TIME) && isWithin(tenth, 1, LONGEST_RAID));
        needState(contest.mayTell(kind, who, tenth));
        return contest.tell(kind, who, tenth);
    }

    public int card(int side, int player, int colour)
            throws IndexOutOfBoundsException, IllegalArgumentException, IllegalStateException {
        needIndex(side, SIDES);
        needIndex(player, PLAYERS);
        needArgument(isWithin(colour, GREEN, RED));
        needState(contest.mayShowCard(side, player, colour));
        return contest.showCard(side, player, colour);
    }

    public int change(int side, int leaves, int comes) throws IndexOutOfBoundsException, IllegalStateException {
        needIndex(side, SIDES);
        needIndex(leaves, PLAYERS);
        needIndex(comes, PLAYERS);
        needState(contest.maySwap(side, leaves, comes));
        return contest.swap(side, leaves, comes);
    }

    public int review(int side, int event, int step, int kind, int who)
            throws IndexOutOfBoundsException, IllegalArgumentException, IllegalStateException {
        needIndex(side, SIDES);
        needIndex(step, contest.stepsOf(event));
        needArgument(isStep(kind, who, LINE));
        needState(contest.isBetweenRaids() && contest.keepsReview(side));
        needState(contest.firstFallen(event, step, kind, who) == NONE);
        return contest.amend(side, event, step, kind, who);
    }

    public int wouldFall(int event, int step, int kind, int who)
            throws IndexOutOfBoundsException, IllegalArgumentException {
        needIndex(step, contest.stepsOf(event));
        needArgument(isStep(kind, who, LINE));
        return contest.firstFallen(event, step, kind, who);
    }

    public int takeBack(int event) throws IndexOutOfBoundsException {
        needIndex(event, contest.countEvents());
        return contest.dropFrom(event);
    }

    public int enter() throws IllegalStateException {
        needState(contest.isOver());
        int winner = league.note(contest.clubOf(0), contest.pointsOf(0), contest.clubOf(1), contest.pointsOf(1));
        contest.close();
        return winner;
    }

    // ---- texts

    public int type(int sign) throws IllegalArgumentException, IllegalStateException {
        needArgument(isWithin(sign, ' ', '~'));
        needState(pad.hasRoom());
        return pad.put(sign);
    }

    public int clear() {
        return pad.wipe();
    }

    public int fault() {
        return pad.findFault();
    }

    public int run() throws IllegalStateException {
        needState(pad.findFault() == NONE);
        pad.rewind();
        int done = 0;
        while (done < SIGNS && pad.readOrder() && isDone()) {
            done++;
        }
        return done;
    }

    // ---- the match as it is

    public int player(int side, int player) throws IndexOutOfBoundsException, IllegalStateException {
        needIndex(side, SIDES);
        needIndex(player, PLAYERS);
        needState(contest.isThere());
        return contest.sideNow(side).stateOf(player);
    }

    public int out(int side, int place) throws IndexOutOfBoundsException, IllegalStateException {
        needIndex(side, SIDES);
        // A row can be asked at every place from 0 on; only one below is refused.
        needIndex(Math.min(place, 0), 1);
        needState(contest.isThere());
        return contest.sideNow(side).outAt(place);
    }

    public int next(int side) throws IndexOutOfBoundsException, IllegalStateException {
        needIndex(side, SIDES);
        needState(contest.isThere());
        return contest.sideNow(side).outAt(0);
    }

    public int points(int side) throws IndexOutOfBoundsException, IllegalStateException {
        needIndex(side, SIDES);
        needState(contest.isThere());
        return contest.pointsOf(side);
    }

    public int match(int what) throws IllegalArgumentException, IllegalStateException {
        needArgument(isWithin(what, 0, 7));
        needState(contest.isThere());
        return contest.tellOf(what);
    }

    public boolean hasReview(int side) throws IndexOutOfBoundsException, IllegalStateException {
        needIndex(side, SIDES);
        needState(contest.isThere());
        return contest.keepsReview(side);
    }

    public int matAfter(int event, int side) throws IndexOutOfBoundsException {
        needIndex(event, contest.countEnded());
        needIndex(side, SIDES);
        return contest.onAfter(event, side);
    }

    public int matAnew(int event, int side) throws IndexOutOfBoundsException {
        needIndex(event, contest.countEnded());
        needIndex(side, SIDES);
        return contest.onAnew(event, side);
    }

    public int pointsAfter(int event, int side) throws IndexOutOfBoundsException {
        needIndex(event, contest.countEnded());
        needIndex(side, SIDES);
        return contest.pointsBehind(event, side);
    }

    public int raidPoints(int side, int player) throws IndexOutOfBoundsException, IllegalStateException {
        needIndex(side, SIDES);
        needIndex(player, PLAYERS);
        needState(contest.isThere());
        return contest.sideNow(side).madeBy(player);
    }

    // ---- the league

    public int club(int club, int what) throws IndexOutOfBoundsException, IllegalArgumentException {
        needIndex(club, CLUBS);
        needArgument(isWithin(what, 0, 6));
        return league.tellOf(club, what);
    }

    // ---- the auction

    public int right(int club, int lot) throws IndexOutOfBoundsException, IllegalStateException {
        needIndex(club, CLUBS);
        needIndex(lot, LOTS);
        needState(!auction.isCalled(lot) && !auction.isSold(lot));
        return auction.giveRight(club, lot);
    }

    public int call(int lot) throws IndexOutOfBoundsException, IllegalStateException {
        needIndex(lot, LOTS);
        needState(!auction.isBusy() && !auction.isSold(lot));
        return auction.callUp(lot);
    }

    public int bid(int club, int amount)
            throws IndexOutOfBoundsException, IllegalArgumentException, IllegalStateException {
        needIndex(club, CLUBS);
        needArgument(isWithin(amount, 1, FULL_PURSE));
        needState(auction.isOpen() && amount >= auction.leastBid() && auction.canPay(club, amount));
        return auction.takeBid(club, amount);
    }

    public int hammer() throws IllegalStateException {
        needState(auction.isOpen());
        return auction.strike();
    }

    public int answer(boolean isTaken) throws IllegalStateException {
        needState(auction.isAsking());
        return auction.settle(isTaken);
    }

    public int lot(int lot, int what) throws IndexOutOfBoundsException, IllegalArgumentException {
        needIndex(lot, LOTS);
        needArgument(isWithin(what, 0, 3));
        return auction.tellOfLot(lot, what);
    }

    public int squad(int club, int what) throws IndexOutOfBoundsException, IllegalArgumentException {
        needIndex(club, CLUBS);
        needArgument(isWithin(what, 0, 2));
        return auction.tellOfClub(club, what);
    }

    // ---- what all calls share

    private static void needIndex(int index, int count) {
        if (index < 0 || index >= count) {
            throw new IndexOutOfBoundsException("there is no such one");
        }
    }

    private static void needArgument(boolean isGood) {
        if (!isGood) {
            throw new IllegalArgumentException("an argument is out of range");
        }
    }

    private static void needState(boolean isGood) {
        if (!isGood) {
            throw new IllegalStateException("this cannot be now");
        }
    }

    private static boolean isWithin(int value, int least, int most) {
        return value >= least && value <= most;
    }

    private static boolean isPlayer(int player) {
        return player >= 0 && player < PLAYERS;
    }

    private static boolean isSide(int side) {
        return side == 0 || side == 1;
    }

    private static boolean isClub(int club) {
        return isWithin(club, 0, CLUBS - 1);
    }

    private static boolean isLot(int lot) {
        return isWithin(lot, 0, LOTS - 1);
    }

    private static boolean isStep(int kind, int who, int lastKind) {
        return isWithin(kind, TOUCH, lastKind) && (kind == TOUCH ? isPlayer(who) : who == NONE);
    }

    private static boolean isEnd(int kind) {
        return kind >= BACK;
    }

    /** Does the order that the pad has read, if raid() or step() would. */
    private boolean isDone() {
        if (pad.word == RAID) {
            if (!contest.mayStartRaid(pad.who)) {
                return false;
            }
            contest.startRaid(pad.who);
            return true;
        }
        if (!isWithin(pad.number, 1, LONGEST_RAID) || !contest.mayTell(pad.word, pad.who, pad.number)) {
            return false;
        }
        contest.tell(pad.word, pad.who, pad.number);
        return true;
    }

    /** The players of one side, with what they had and made so far. */
    private static final class Side {
        private final int[] states = new int[PLAYERS];
        private final int[] untils = new int[PLAYERS];
        private final int[] cards = new int[PLAYERS];
        private final int[] made = new int[PLAYERS];
        private final int[] row = new int[PLAYERS];
        private int rowSize;
        private int changes;
        private int score;
        private int empties;

        void reset() {
            for (int i = 0; i < PLAYERS; i++) {
                states[i] = i < STARTERS ? ON : BENCH;
                untils[i] = 0;
                cards[i] = 0;
                made[i] = 0;
            }
            rowSize = 0;
            changes = 0;
            score = 0;
            empties = 0;
        }

        int stateOf(int player) {
            return isPlayer(player) ? states[player] : NONE;
        }

        boolean isOn(int player) {
            return isPlayer(player) && states[player] == ON;
        }

        int count(int state) {
            int found = 0;
            for (int i = 0; i < PLAYERS; i++) {
                if (states[i] == state) {
                    found++;
                }
            }
            return found;
        }

        int countStanding() {
            return count(ON) + count(SUSPENDED);
        }

        int onBits() {
            int bits = 0;
            for (int i = 0; i < PLAYERS; i++) {
                if (states[i] == ON) {
                    bits |= 1 << i;
                }
            }
            return bits;
        }

        int outAt(int place) {
            return place >= 0 && place < rowSize && place < PLAYERS ? row[place] : NONE;
        }

        int madeBy(int player) {
            return isPlayer(player) ? made[player] : 0;
        }

        void scoreBy(int player, int gained) {
            score += gained;
            if (isPlayer(player)) {
                made[player] += gained;
            }
        }

        void sendOut(int player) {
            if (isPlayer(player) && rowSize >= 0 && rowSize < PLAYERS) {
                states[player] = OUT;
                row[rowSize] = player;
                rowSize++;
            }
        }

        void comeBack(int wanted) {
            for (int i = 0; i < wanted && rowSize > 0; i++) {
                int player = row[0];
                if (isPlayer(player)) {
                    states[player] = ON;
                }
                rowSize--;
                for (int k = 0; k < rowSize && k + 1 < PLAYERS; k++) {
                    row[k] = row[k + 1];
                }
            }
        }

        void endSuspensions(int time) {
            for (int i = 0; i < PLAYERS; i++) {
                if (states[i] == SUSPENDED && untils[i] <= time) {
                    states[i] = ON;
                }
            }
        }

        /** The colour that a card becomes by those that the player had. */
        int colourFor(int player, int told) {
            int had = isPlayer(player) ? cards[player] : 0;
            int colour = told;
            while (colour < RED && (had >> colour & 1) == 1) {
                colour++;
            }
            return colour;
        }

        boolean mayGet(int player, int told) {
            return isOn(player)
                    && (colourFor(player, told) == GREEN || count(SUSPENDED) + count(GONE) < 3);
        }

        void takeCard(int player, int colour, int time) {
            if (!isPlayer(player)) {
                return;
            }
            cards[player] |= 1 << colour;
            if (colour == YELLOW) {
                states[player] = SUSPENDED;
                untils[player] = time + 1200;
            } else if (colour == RED) {
                states[player] = GONE;
            }
        }

        boolean mayChange(int leaves, int comes) {
            return isOn(leaves) && stateOf(comes) == BENCH && changes < 5;
        }

        void swapPlayers(int leaves, int comes) {
            if (isPlayer(leaves) && isPlayer(comes)) {
                states[leaves] = BENCH;
                states[comes] = ON;
                changes++;
            }
        }
    }

    /** A raid, a card or a substitution as it was told, and what stood behind it. */
    private static final class Event {
        private static final int OF_RAID = 0;
        private static final int OF_CARD = 1;
        private static final int OF_CHANGE = 2;

        private final int[] kinds = new int[STEPS];
        private final int[] whos = new int[STEPS];
        private final int[] tenths = new int[STEPS];
        private final int[] onBits = new int[SIDES];
        private final int[] scores = new int[SIDES];
        private int sort;
        private int side;
        private int player;
        /** The colour that was told, or the player who comes. */
        private int detail;
        private int size;

        void fill(int newSort, int newSide, int newPlayer, int newDetail) {
            sort = newSort;
            side = newSide;
            player = newPlayer;
            detail = newDetail;
            size = 0;
        }

        boolean isRaid() {
            return sort == OF_RAID;
        }

        private boolean isPlace(int place) {
            return place >= 0 && place < size && place < STEPS;
        }

        int kindAt(int place) {
            return isPlace(place) ? kinds[place] : NONE;
        }

        int whoAt(int place) {
            return isPlace(place) ? whos[place] : NONE;
        }

        int tenthAt(int place) {
            return isPlace(place) ? tenths[place] : 0;
        }

        void add(int kind, int who, int tenth) {
            if (size >= 0 && size < STEPS) {
                kinds[size] = kind;
                whos[size] = who;
                tenths[size] = tenth;
                size++;
            }
        }

        void correct(int place, int kind, int who) {
            if (isPlace(place)) {
                kinds[place] = kind;
                whos[place] = who;
            }
        }

        boolean hasAmongFirst(int count, int kind, int who) {
            for (int i = 0; i < count && i < STEPS; i++) {
                if (kinds[i] == kind && whos[i] == who) {
                    return true;
                }
            }
            return false;
        }

        boolean has(int kind) {
            return hasAmongFirst(size, kind, NONE);
        }

        int countTouches() {
            int found = 0;
            for (int i = 0; i < size && i < STEPS; i++) {
                if (kinds[i] == TOUCH) {
                    found++;
                }
            }
            return found;
        }

        int lastTenth() {
            return tenthAt(size - 1);
        }

        int lastKind() {
            return kindAt(size - 1);
        }

        void keepWhatStands(Mats mats) {
            for (int i = 0; i < SIDES; i++) {
                onBits[i] = mats.sideAt(i).onBits();
                scores[i] = mats.sideAt(i).score;
            }
        }

        int onBitsOf(int which) {
            return isSide(which) ? onBits[which] : 0;
        }

        int scoreOf(int which) {
            return isSide(which) ? scores[which] : 0;
        }
    }

    /** Both sides behind some event: what can be played then, and what follows from it. */
    private static final class Mats {
        private final Side first = new Side();
        private final Side second = new Side();
        private int time;
        private int raids;

        void reset() {
            first.reset();
            second.reset();
            time = 0;
            raids = 0;
        }

        Side sideAt(int side) {
            return side == 0 ? first : second;
        }

        int turn() {
            return raids & 1;
        }

        boolean isDoOrDie() {
            return sideAt(turn()).empties >= 2;
        }

        /** Whether a step can stand behind the first ones of a raid, so many as count says. */
        boolean mayStep(Event raid, int count, int kind, int who, int tenth) {
            if (kind == TIME) {
                return tenth == LONGEST_RAID;
            }
            if (isEnd(kind)) {
                return true;
            }
            if (kind == TOUCH && !sideAt(1 - turn()).isOn(who)) {
                return false;
            }
            return !raid.hasAmongFirst(count, kind, who);
        }

        boolean mayStand(Event event) {
            if (event.sort == Event.OF_CARD) {
                return sideAt(event.side).mayGet(event.player, event.detail);
            }
            if (event.sort == Event.OF_CHANGE) {
                return sideAt(event.side).mayChange(event.player, event.detail);
            }
            return mayStandAsRaid(event);
        }

        private boolean mayStandAsRaid(Event raid) {
            if (!sideAt(turn()).isOn(raid.player)) {
                return false;
            }
            for (int i = 0; i < raid.size && i < STEPS; i++) {
                if (!mayStep(raid, i, raid.kindAt(i), raid.whoAt(i), raid.tenthAt(i))) {
                    return false;
                }
            }
            return true;
        }

        void play(Event event) {
            if (event.sort == Event.OF_CARD) {
                playCard(event);
            } else if (event.sort == Event.OF_CHANGE) {
                sideAt(event.side).swapPlayers(event.player, event.detail);
            } else {
                playRaid(event);
            }
        }

        private void playCard(Event card) {
            Side side = sideAt(card.side);
            int colour = side.colourFor(card.player, card.detail);
            side.takeCard(card.player, colour, time);
            if (colour == RED) {
                sideAt(1 - card.side).score++;
            }
            endAllOut(card.side);
        }

        private void playRaid(Event raid) {
            Side raiding = sideAt(turn());
            Side other = sideAt(1 - turn());
            int touches = raid.countTouches();
            int bonus = raid.has(BONUS) && other.countStanding() >= 6 ? 1 : 0;
            boolean isIdle = touches == 0 && !raid.has(BONUS) && !raid.has(BAULK);
            boolean isEmpty = false;
            if (raid.lastKind() != BACK) {
                int forHold = raid.lastKind() == FALL && other.countStanding() <= 3 ? 2 : 1;
                raiding.scoreBy(raid.player, bonus);
                loseRaider(raiding, other, raid.player, forHold);
            } else if (touches + bonus > 0) {
                raiding.scoreBy(raid.player, touches + bonus);
                sendTouchedOut(raid, other);
                raiding.comeBack(touches);
            } else if (isIdle || isDoOrDie()) {
                loseRaider(raiding, other, raid.player, 1);
            } else {
                isEmpty = true;
            }
            raiding.empties = isEmpty ? raiding.empties + 1 : 0;
            endAllOut(0);
            endAllOut(1);
            passTime(raid.lastTenth());
        }

        private static void loseRaider(Side raiding, Side other, int raider, int gained) {
            raiding.sendOut(raider);
            other.score += gained;
            other.comeBack(1);
        }

        private static void sendTouchedOut(Event raid, Side other) {
            for (int i = 0; i < raid.size && i < STEPS; i++) {
                if (raid.kindAt(i) == TOUCH) {
                    other.sendOut(raid.whoAt(i));
                }
            }
        }

        private void passTime(int tenths) {
            time += tenths;
            raids++;
            first.endSuspensions(time);
            second.endSuspensions(time);
        }

        private void endAllOut(int side) {
            Side mine = sideAt(side);
            if (mine.count(ON) == 0) {
                sideAt(1 - side).score += 2;
                mine.comeBack(PLAYERS);
            }
        }
    }

    /** The match: its events, and the mats that follow from them. */
    private static final class Contest {
        private final Event[] events = new Event[EVENTS];
        private final Mats now = new Mats();
        private final Mats draft = new Mats();
        private int size;
        private boolean isThere;
        private boolean isRaiding;
        private int firstClub;
        private int secondClub;
        private int lasts;
        private int begun;
        private int lostReviews;

        Contest() {
            for (int i = 0; i < EVENTS; i++) {
                events[i] = new Event();
            }
        }

        boolean isThere() {
            return isThere;
        }

        int open(int club, int other, int tenths) {
            isThere = true;
            isRaiding = false;
            size = 0;
            firstClub = club;
            secondClub = other;
            lasts = tenths;
            lostReviews = 0;
            now.reset();
            begun++;
            return begun;
        }

        void close() {
            isThere = false;
            size = 0;
        }

        int countEvents() {
            return size;
        }

        int countEnded() {
            return isRaiding ? size - 1 : size;
        }

        boolean isBetweenRaids() {
            return isThere && !isRaiding;
        }

        boolean isOver() {
            return isBetweenRaids() && now.time >= lasts;
        }

        /** The event of a number, or none: so each caller looks ahead of its use. */
        private Event eventAt(int number) {
            return number >= 0 && number < size && number < EVENTS ? events[number] : null;
        }

        private Event raidGoingOn() {
            return isRaiding ? eventAt(size - 1) : null;
        }

        private Event addEvent(int sort, int side, int player, int detail) {
            if (size < 0 || size >= EVENTS) {
                return null;
            }
            Event event = events[size];
            if (event != null) {
                event.fill(sort, side, player, detail);
                size++;
            }
            return event;
        }

        private boolean mayAdd() {
            return isBetweenRaids() && size < EVENTS;
        }

        boolean mayStartRaid(int raider) {
            return mayAdd() && now.time < lasts && now.sideAt(now.turn()).isOn(raider);
        }

        int startRaid(int raider) {
            addEvent(Event.OF_RAID, now.turn(), raider, NONE);
            isRaiding = true;
            return size - 1;
        }

        boolean mayTell(int kind, int who, int tenth) {
            Event raid = raidGoingOn();
            return raid != null && tenth > raid.lastTenth() && now.mayStep(raid, raid.size, kind, who, tenth);
        }

        int tell(int kind, int who, int tenth) {
            Event raid = raidGoingOn();
            if (raid == null) {
                return NONE;
            }
            raid.add(kind, who, tenth);
            if (!isEnd(kind)) {
                return NONE;
            }
            int mine = now.turn();
            int before = 10 * pointsOf(mine) + pointsOf(1 - mine);
            now.play(raid);
            raid.keepWhatStands(now);
            isRaiding = false;
            return 10 * pointsOf(mine) + pointsOf(1 - mine) - before;
        }

        boolean mayShowCard(int side, int player, int colour) {
            return mayAdd() && now.sideAt(side).mayGet(player, colour);
        }

        int showCard(int side, int player, int told) {
            int colour = now.sideAt(side).colourFor(player, told);
            Event event = addEvent(Event.OF_CARD, side, player, told);
            if (event != null) {
                now.play(event);
                event.keepWhatStands(now);
            }
            return colour;
        }

        boolean maySwap(int side, int leaves, int comes) {
            return mayAdd() && now.sideAt(side).mayChange(leaves, comes);
        }

        int swap(int side, int leaves, int comes) {
            Event event = addEvent(Event.OF_CHANGE, side, leaves, comes);
            if (event != null) {
                now.play(event);
                event.keepWhatStands(now);
            }
            return now.sideAt(side).changes;
        }

        /** How many steps an event has, 0 if it is no raid that has ended. */
        int stepsOf(int number) {
            Event event = number < countEnded() ? eventAt(number) : null;
            return event != null && event.isRaid() ? event.size : 0;
        }

        boolean keepsReview(int side) {
            return (lostReviews >> side & 1) == 0;
        }

        /** The first event that would not stand if a step had been this; NONE if all would. */
        int firstFallen(int number, int place, int kind, int who) {
            Event raid = eventAt(number);
            if (raid == null || isEnd(raid.kindAt(place)) != isEnd(kind)) {
                return number;
            }
            int toldKind = raid.kindAt(place);
            int toldWho = raid.whoAt(place);
            raid.correct(place, kind, who);
            int fallen = goThrough(countEnded());
            raid.correct(place, toldKind, toldWho);
            return fallen;
        }

        /** Goes through the first events on the draft, to the first one that does not stand. */
        private int goThrough(int count) {
            draft.reset();
            for (int i = 0; i < count && i < EVENTS; i++) {
                Event event = events[i];
                if (event == null || !draft.mayStand(event)) {
                    return i;
                }
                draft.play(event);
            }
            return NONE;
        }

        private void playAllAnew() {
            now.reset();
            for (int i = 0; i < size && i < EVENTS; i++) {
                Event event = events[i];
                if (event != null) {
                    now.play(event);
                    event.keepWhatStands(now);
                }
            }
        }

        int amend(int side, int number, int place, int kind, int who) {
            int before = leadOf(side);
            Event raid = eventAt(number);
            if (raid != null) {
                raid.correct(place, kind, who);
                playAllAnew();
            }
            int gained = leadOf(side) - before;
            if (gained <= 0) {
                lostReviews |= 1 << side;
            }
            return gained;
        }

        private int leadOf(int side) {
            return pointsOf(side) - pointsOf(1 - side);
        }

        int dropFrom(int number) {
            int dropped = size - number;
            size = number;
            isRaiding = false;
            playAllAnew();
            return dropped;
        }

        Side sideNow(int side) {
            return now.sideAt(side);
        }

        int pointsOf(int side) {
            return now.sideAt(side).score;
        }

        int clubOf(int side) {
            return side == 0 ? firstClub : secondClub;
        }

        int tellOf(int what) {
            switch (what) {
                case 0:
                    return now.time;
                case 1:
                    return now.turn();
                case 2:
                    return size;
                case 3:
                    return isRaiding ? 1 : 0;
                case 4:
                    return now.isDoOrDie() ? 1 : 0;
                case 5:
                    return isOver() ? 1 : 0;
                default:
                    return clubOf(what - 6);
            }
        }

        int onAfter(int number, int side) {
            Event event = eventAt(number);
            return event == null ? 0 : event.onBitsOf(side);
        }

        int onAnew(int number, int side) {
            goThrough(number + 1);
            return draft.sideAt(side).onBits();
        }

        int pointsBehind(int number, int side) {
            Event event = eventAt(number);
            return event == null ? 0 : event.scoreOf(side);
        }
    }

    /** The pad, and the reading of its orders one by one. */
    private static final class Pad {
        private final int[] signs = new int[SIGNS];
        private int size;
        /** The next sign to read; where reading fails it stays, and that is the fault. */
        private int at;
        private int word;
        private int who;
        private int number;

        boolean hasRoom() {
            return size < SIGNS;
        }

        int put(int sign) {
            if (size >= 0 && size < SIGNS) {
                signs[size] = sign;
                size++;
            }
            return size;
        }

        int wipe() {
            int had = size;
            size = 0;
            return had;
        }

        void rewind() {
            at = 0;
        }

        int findFault() {
            rewind();
            for (int i = 0; i < SIGNS && at < size; i++) {
                if (!readOrder()) {
                    return at;
                }
            }
            return NONE;
        }

        boolean readOrder() {
            who = NONE;
            if (!readWord()) {
                return false;
            }
            if ((word == RAID || word == TOUCH) && !readPlayer()) {
                return false;
            }
            if (word != RAID && !(readSign('@') && readNumber())) {
                return false;
            }
            return readSign(';');
        }

        private boolean readWord() {
            int fitting = (1 << WORDS) - 1;
            for (int length = 0; length < SIGNS; length++) {
                fitting = keepFitting(fitting, length);
                if (fitting == 0) {
                    return false;
                }
                at++;
                for (int i = 0; i < WORDS; i++) {
                    if (fitting == 1 << i && textOf(i).length() == length + 1) {
                        word = i;
                        return true;
                    }
                }
            }
            return false;
        }

        /** Those of the fitting words, a bit for each, that have the next sign at this place. */
        private int keepFitting(int fitting, int place) {
            int kept = 0;
            int sign = nextSign();
            for (int i = 0; i < WORDS; i++) {
                String text = textOf(i);
                if ((fitting >> i & 1) == 1 && place < text.length() && text.charAt(place) == sign) {
                    kept |= 1 << i;
                }
            }
            return kept;
        }

        private static String textOf(int word) {
            switch (word) {
                case TOUCH:
                    return "touch";
                case BONUS:
                    return "bonus";
                case BAULK:
                    return "baulk";
                case BACK:
                    return "back";
                case FALL:
                    return "fall";
                case LINE:
                    return "line";
                case TIME:
                    return "time";
                default:
                    return "raid";
            }
        }

        private int nextSign() {
            return at >= 0 && at < size && at < SIGNS ? signs[at] : NONE;
        }

        private boolean isAtDigit() {
            return isWithin(nextSign(), '0', '9');
        }

        private boolean readSign(int sign) {
            if (nextSign() != sign) {
                return false;
            }
            at++;
            return true;
        }

        private boolean readPlayer() {
            if (!isAtDigit()) {
                return false;
            }
            who = nextSign() - '0';
            at++;
            return true;
        }

        private boolean readNumber() {
            if (!isAtDigit()) {
                return false;
            }
            number = 0;
            for (int i = 0; i < 3 && isAtDigit(); i++) {
                number = 10 * number + nextSign() - '0';
                at++;
            }
            return true;
        }
    }

    private static final class League {
        private final int[] matches = new int[CLUBS];
        private final int[] won = new int[CLUBS];
        private final int[] even = new int[CLUBS];
        private final int[] gained = new int[CLUBS];
        private final int[] made = new int[CLUBS];
        private final int[] let = new int[CLUBS];

        /** Notes a match; tells the club that won it, or NONE. */
        int note(int club, int points, int other, int otherPoints) {
            noteFor(club, points, otherPoints);
            noteFor(other, otherPoints, points);
            if (points == otherPoints) {
                return NONE;
            }
            return points > otherPoints ? club : other;
        }

        private void noteFor(int club, int own, int against) {
            if (!isClub(club)) {
                return;
            }
            matches[club]++;
            made[club] += own;
            let[club] += against;
            if (own > against) {
                won[club]++;
                gained[club] += 5;
            } else if (own == against) {
                even[club]++;
                gained[club] += 3;
            } else if (against - own <= 7) {
                gained[club] += 1;
            }
        }

        int tellOf(int club, int what) {
            if (!isClub(club)) {
                return NONE;
            }
            switch (what) {
                case 0:
                    return matches[club];
                case 1:
                    return won[club];
                case 2:
                    return even[club];
                case 3:
                    return gained[club];
                case 4:
                    return made[club];
                case 5:
                    return let[club];
                default:
                    return rankOf(club);
            }
        }

        private int rankOf(int club) {
            int ahead = 0;
            for (int i = 0; i < CLUBS; i++) {
                if (i != club && isAhead(i, club)) {
                    ahead++;
                }
            }
            return ahead;
        }

        private boolean isAhead(int club, int other) {
            if (!isClub(club) || !isClub(other)) {
                return false;
            }
            if (gained[club] != gained[other]) {
                return gained[club] > gained[other];
            }
            long mine = upper(club) * lower(other);
            long others = upper(other) * lower(club);
            return mine == others ? club < other : mine > others;
        }

        /** With lower() the club's fraction; none let is 1 by 0, so that two such products compare as even. */
        private long upper(int club) {
            return let[club] == 0 ? 1 : made[club];
        }

        private long lower(int club) {
            return let[club] == 0 && made[club] == 0 ? 1 : let[club];
        }
    }

    private static final class Auction {
        private static final int SQUAD_SIZE = 6;
        private static final int MOST_FOREIGN = 2;
        private static final int RAISE = 5;

        private final int[] purses = new int[CLUBS];
        private final int[] sizes = new int[CLUBS];
        private final int[] foreigns = new int[CLUBS];
        private final int[] owners = new int[LOTS];
        private final int[] prices = new int[LOTS];
        private final int[] rights = new int[LOTS];
        private int called = NONE;
        private int bids;
        private int highest;
        private int bidder;
        private boolean isAsking;

        Auction() {
            for (int i = 0; i < CLUBS; i++) {
                purses[i] = FULL_PURSE;
            }
            for (int i = 0; i < LOTS; i++) {
                owners[i] = NONE;
                prices[i] = NONE;
                rights[i] = NONE;
            }
        }

        boolean isCalled(int lot) {
            return called == lot;
        }

        boolean isBusy() {
            return called != NONE;
        }

        boolean isOpen() {
            return isBusy() && !isAsking;
        }

        boolean isAsking() {
            return isAsking;
        }

        boolean isSold(int lot) {
            return isLot(lot) && owners[lot] != NONE;
        }

        private static int basePrice(int lot) {
            int rest = lot % 3;
            return rest == 0 ? 50 : rest == 1 ? 30 : 10;
        }

        private static boolean isForeign(int lot) {
            return lot % 4 == 0;
        }

        private int rightOn(int lot) {
            return isLot(lot) ? rights[lot] : NONE;
        }

        int giveRight(int club, int lot) {
            int had = rightOn(lot);
            if (isLot(lot)) {
                rights[lot] = club;
            }
            return had;
        }

        int callUp(int lot) {
            called = lot;
            bids = 0;
            highest = NONE;
            bidder = NONE;
            return basePrice(lot);
        }

        int leastBid() {
            return bids == 0 ? basePrice(called) : highest + RAISE;
        }

        /** Whether a club has so much, and room for the lot that is called. */
        boolean canPay(int club, int amount) {
            return isClub(club) && purses[club] >= amount && sizes[club] < SQUAD_SIZE
                    && (!isForeign(called) || foreigns[club] < MOST_FOREIGN);
        }

        int takeBid(int club, int amount) {
            highest = amount;
            bidder = club;
            bids++;
            return bids;
        }

        int strike() {
            if (bids == 0) {
                called = NONE;
                return NONE;
            }
            int asked = rightOn(called);
            if (asked != NONE && asked != bidder && canPay(asked, highest)) {
                isAsking = true;
                return NONE;
            }
            return sellTo(bidder);
        }

        int settle(boolean isTaken) {
            int buyer = isTaken ? rightOn(called) : bidder;
            if (isLot(called)) {
                rights[called] = NONE;
            }
            isAsking = false;
            return sellTo(buyer);
        }

        private int sellTo(int club) {
            if (isClub(club) && isLot(called)) {
                owners[called] = club;
                prices[called] = highest;
                purses[club] -= highest;
                sizes[club]++;
                if (isForeign(called)) {
                    foreigns[club]++;
                }
            }
            called = NONE;
            return club;
        }

        int tellOfLot(int lot, int what) {
            if (!isLot(lot)) {
                return NONE;
            }
            switch (what) {
                case 0:
                    return owners[lot];
                case 1:
                    return prices[lot];
                case 2:
                    return rights[lot];
                default:
                    return isCalled(lot) ? highest : NONE;
            }
        }

        int tellOfClub(int club, int what) {
            if (!isClub(club)) {
                return NONE;
            }
            switch (what) {
                case 0:
                    return purses[club];
                case 1:
                    return sizes[club];
                default:
                    return foreigns[club];
            }
        }
    }
}
