import java.util.Arrays;

/** Maps a house from the signs, the pebble and the bumps of one walker; ../shared/DOC.md says what each call answers. */
public final class RoomMapper {
    private static final int NO_SUCH = -1;
    private static final int CANNOT = -2;
    private static final int TOO_MANY = -3;
    private static final int OTHER_SIGN = -4;
    private static final int NOTHING_HELD = -11;
    private static final int OTHER_KIND = -12;
    private static final int NO_PLACE = -13;
    private static final int SIZE_BELOW_0 = -14;
    private static final int NO_FAILURE = -15;

    // These three are both what is stored and what the calls answer.
    private static final int BUMP = -2;
    private static final int UNKNOWN = -3;
    private static final int CARRIED = -2;

    private static final int WALL = 0;
    private static final int DOOR = 2;
    private static final int SLIDE = 3;
    private static final int TURN = 4;
    private static final int GATE = 5;

    private static final int MAX_CELLS = 10;
    private static final int SIGNS = 4;
    private static final int DIRECTIONS = 4;
    private static final int STANDS = MAX_CELLS * DIRECTIONS * 2;
    private static final int SLIDES_ON = 10;

    private static final int PRESS = 4;
    private static final int PEBBLE_ACT = 5;
    private static final int MAP_ACTS = 5;
    private static final int MAX_WALK = 200;

    private static final int MAX_PLACES = 6;
    private static final int MAX_SHEETS = 150;
    private static final int PAIRS = MAX_PLACES * STANDS;

    // A sight is one number for all that is SEEN: 8 for a BUMP, twice the SIGN, 1 for the PEBBLE.
    private static final int SIGHTS = 16;
    private static final int SIGHT_BUMP = 8;

    private static final int MAX_PART = 6;
    private static final int MAX_NEXT = 3;
    private static final int NEXT_UNIT = 200;
    private static final int[] ROWS_OF_ACTS = {1, 5, 25, 125, 625, 3125, 15625};

    private static final int HAND_LEADS = 32768;
    private static final int HAND_BUMP = 6;
    private static final int HAND_UNKNOWN = 7;

    private static final int SHELVES = 8;
    private static final int MAX_ROW = 60;
    private static final int NOTHING = 0;
    private static final int LEAD = 1;
    private static final int BYTES = 3;
    private static final int LONGS = 4;

    private final House house = new House();
    private final Walk walk = new Walk();
    private final Atlas atlas = new Atlas();
    private final Parting parting = new Parting();
    private final Route route = new Route();
    private final Sheet hand = new Sheet();
    private final Todo todo = new Todo();
    private final Shelf[] shelves = new Shelf[SHELVES];
    private boolean started;

    public RoomMapper() {
        for (int d = 0; d < SHELVES; d++) {
            shelves[d] = new Shelf();
        }
    }

    public int cell(int sign, boolean plate) {
        if (!within(sign, SIGNS)) {
            return NO_SUCH;
        }
        if (house.cells >= MAX_CELLS) {
            return CANNOT;
        }
        return house.addCell(sign, plate);
    }

    public int lead(int cell, int i, int kind, int to) {
        if (!within(cell, house.cells) || !within(i, DIRECTIONS) || !within(kind, GATE + 1)) {
            return NO_SUCH;
        }
        if (kind != WALL && !within(to, house.cells)) {
            return NO_SUCH;
        }
        // A WALL may be told with any number, which must never be followed.
        return house.setLead(cell * DIRECTIONS + i, kind, kind == WALL ? cell : to);
    }

    public int start(int m) {
        if (m < 1 || m > MAX_PLACES) {
            return NO_SUCH;
        }
        if (house.cells == 0) {
            return CANNOT;
        }
        started = true;
        house.begin();
        walk.length = 0;
        atlas.begin(m, house.signs[0]);
        return 0;
    }

    public int act(int act) {
        if (!within(act, PEBBLE_ACT + 1)) {
            return NO_SUCH;
        }
        if (!started) {
            return CANNOT;
        }
        if (walk.length >= MAX_WALK) {
            return TOO_MANY;
        }
        boolean bumped = house.perform(act);
        int sight = house.sight(bumped);
        walk.add(act, sight);
        atlas.advance(act, sight);
        return bumped ? 1 : 0;
    }

    public int seen(int what) {
        if (!within(what, 4)) {
            return NO_SUCH;
        }
        if (!started) {
            return CANNOT;
        }
        int sight = house.sight(walk.bumpedLast());
        switch (what) {
            case 0:
                return signOf(sight);
            case 1:
                return pebbleOf(sight);
            case 2:
                return bumpOf(sight);
            default:
                return house.pebble == CARRIED ? 1 : 0;
        }
    }

    public int walk(int i, int what) {
        if (!within(i, walk.length) || !within(what, 4)) {
            return NO_SUCH;
        }
        int sight = walk.sights[i];
        switch (what) {
            case 0:
                return walk.acts[i];
            case 1:
                return bumpOf(sight);
            case 2:
                return signOf(sight);
            default:
                return pebbleOf(sight);
        }
    }

    public int sheets() {
        int refusal = unmapped();
        return refusal != 0 ? refusal : atlas.count;
    }

    public int sheet(int k, int what) {
        if (!within(k, atlas.count) || !within(what, 4)) {
            return NO_SUCH;
        }
        Sheet sheet = atlas.now[k];
        switch (what) {
            case 0:
                return sheet.places;
            case 1:
                return sheet.walker;
            case 2:
                return sheet.pebble;
            default:
                return sheet.countKnown();
        }
    }

    public int leads(int k, int place, int act) {
        if (!isPlace(k, place) || !within(act, MAP_ACTS)) {
            return NO_SUCH;
        }
        return atlas.now[k].leadFrom(place, act);
    }

    public int sign(int k, int place) {
        return isPlace(k, place) ? atlas.now[k].signs[place] : NO_SUCH;
    }

    public int known() {
        int refusal = unmapped();
        if (refusal != 0) {
            return refusal;
        }
        return atlas.count == 1 && isExplored(atlas.now[0]) ? 1 : 0;
    }

    public int one(int i, int j) {
        // This promise tells an order of its own: -2, -3, and every -1 behind them.
        int refusal = unsheeted();
        if (refusal != 0) {
            return refusal;
        }
        if (!within(i, walk.length + 1) || !within(j, walk.length + 1)) {
            return NO_SUCH;
        }
        int alike = 0;
        for (int k = 0; k < atlas.count; k++) {
            Sheet sheet = atlas.now[k];
            if (placeBehind(sheet, i) == placeBehind(sheet, j)) {
                alike++;
            }
        }
        if (alike == 0) {
            return 0;
        }
        return alike == atlas.count ? 1 : 2;
    }

    public int part(int n, int acts) {
        if (n < 1 || n > MAX_PART || !within(acts, ROWS_OF_ACTS[n])) {
            return NO_SUCH;
        }
        int refusal = unsheeted();
        return refusal != 0 ? refusal : parting.countSets(atlas, n, acts);
    }

    public int next(int n) {
        if (n < 1 || n > MAX_NEXT) {
            return NO_SUCH;
        }
        int refusal = unsheeted();
        return refusal != 0 ? refusal : parting.bestRow(atlas, n);
    }

    public int go(int k, int place) {
        if (!isPlace(k, place)) {
            return NO_SUCH;
        }
        return route.find(atlas.now[k], place) ? route.length : CANNOT;
    }

    public int way(int i) {
        return within(i, route.length) ? route.acts[i] : NO_SUCH;
    }

    public int hand(int p, int sign, int leads) {
        if (!within(p, MAX_PLACES) || !within(sign, SIGNS) || !within(leads, HAND_LEADS)) {
            return NO_SUCH;
        }
        hand.signs[p] = sign;
        for (int act = 0; act < MAP_ACTS; act++) {
            hand.setLead(p, act, handLead(p, act, (leads >> (3 * act)) & 7));
        }
        return 0;
    }

    public int fits() {
        if (!started) {
            return CANNOT;
        }
        hand.returnToStart();
        if (hand.signs[0] != house.signs[0]) {
            return OTHER_SIGN;
        }
        for (int i = 0; i < walk.length; i++) {
            if (!hand.follow(walk.acts[i], walk.sights[i])) {
                return i + 1;
            }
        }
        return 0;
    }

    public int isTrue(int k) {
        if (!within(k, atlas.count)) {
            return NO_SUCH;
        }
        return agreesWithHouse(atlas.now[k]) ? 1 : 0;
    }

    public int count(int what) {
        if (!within(what, 6)) {
            return NO_SUCH;
        }
        if (what == 0) {
            return house.cells;
        }
        if (!started) {
            return CANNOT;
        }
        switch (what) {
            case 1:
                return cellOf(house.stand);
            case 2:
                return turnOf(house.stand);
            case 3:
                return switchOf(house.stand);
            case 4:
                return walk.length;
            default:
                return house.pebble;
        }
    }

    public int reached() {
        if (!started) {
            return CANNOT;
        }
        todo.clear();
        todo.addOnce(house.stand);
        for (int i = 0; i < todo.size && i < STANDS; i++) {
            for (int act = 0; act < MAP_ACTS; act++) {
                // A BUMP is no number of the list, so it adds nothing.
                todo.addOnce(house.after(todo.items[i], act));
            }
        }
        return todo.size;
    }

    public int keep(int d, int what, int k) {
        if (!within(d, SHELVES)) {
            return NO_SUCH;
        }
        switch (what) {
            case NOTHING:
                shelves[d].holds = NOTHING;
                return 0;
            case LEAD:
                return keepLead(shelves[d], k);
            case BYTES:
                return keepActs(shelves[d]);
            case LONGS:
                return keepSigns(shelves[d], k);
            default:
                return NO_SUCH;
        }
    }

    public int make(int d, int what, int n) {
        if (!within(d, SHELVES) || (what != BYTES && what != LONGS) || n > MAX_ROW) {
            return NO_SUCH;
        }
        if (n < 0) {
            return SIZE_BELOW_0;
        }
        shelves[d].holdRow(what, n);
        return 0;
    }

    public long element(int d, int i) throws IllegalArgumentException, IllegalStateException {
        if (!within(d, SHELVES)) {
            throw new IllegalArgumentException("no such shelf");
        }
        Shelf shelf = shelves[d];
        if (!shelf.isRow()) {
            throw new IllegalStateException("no row is held");
        }
        if (!within(i, shelf.size)) {
            throw new IllegalStateException("the row has no such place");
        }
        return shelf.row[i];
    }

    public int copy(int d, int i, int e, int j, int n) {
        if (!within(d, SHELVES) || !within(e, SHELVES)) {
            return NO_SUCH;
        }
        Shelf from = shelves[d];
        Shelf to = shelves[e];
        if (from.holds == NOTHING || to.holds == NOTHING) {
            return NOTHING_HELD;
        }
        if (!from.isRow() || from.holds != to.holds) {
            return OTHER_KIND;
        }
        if (!from.hasStretch(i, n) || !to.hasStretch(j, n)) {
            return NO_PLACE;
        }
        System.arraycopy(from.row, i, to.row, j, n);
        return n;
    }

    public int weight(int d) {
        int refusal = leadless(d);
        return refusal != 0 ? refusal : weightOf(shelves[d].kind, shelves[d].to);
    }

    public int toss(int d) {
        int refusal = leadless(d);
        if (refusal != 0) {
            return refusal;
        }
        Shelf shelf = shelves[d];
        try {
            shelf.fail();
        } catch (IllegalStateException failure) {
            return shelf.to;
        }
        return NO_FAILURE;
    }

    private static boolean within(int i, int size) {
        return i >= 0 && i < size;
    }

    private static int bumpOf(int sight) {
        return sight / SIGHT_BUMP;
    }

    private static int signOf(int sight) {
        return sight / 2 % SIGNS;
    }

    private static int pebbleOf(int sight) {
        return sight % 2;
    }

    private static int sightOf(boolean bumped, int sign, boolean pebble) {
        return (bumped ? SIGHT_BUMP : 0) + 2 * sign + (pebble ? 1 : 0);
    }

    private static int standOf(int cell, int turn, int on) {
        return (cell * DIRECTIONS + turn) * 2 + on;
    }

    private static int cellOf(int stand) {
        return stand / 2 / DIRECTIONS;
    }

    private static int turnOf(int stand) {
        return stand / 2 % DIRECTIONS;
    }

    private static int switchOf(int stand) {
        return stand % 2;
    }

    private static int weightOf(int kind, int to) {
        int plain = 10 + to;
        switch (kind) {
            case WALL:
                return 1;
            case DOOR:
                return plain + 100;
            case SLIDE:
                return plain + 1000;
            case TURN:
                return plain + 2000;
            case GATE:
                return 2 * (plain + 100);
            default:
                return plain;
        }
    }

    private static int handLead(int place, int act, int digit) {
        if (digit == HAND_UNKNOWN) {
            return UNKNOWN;
        }
        if (digit == HAND_BUMP) {
            // Nobody BUMPS by pressing: there the digit tells that one stays.
            return act == PRESS ? place : BUMP;
        }
        return digit;
    }

    /** The refusal of calls that are told by the SHEETS, or 0. */
    private int unmapped() {
        if (!started) {
            return CANNOT;
        }
        return atlas.spent ? TOO_MANY : 0;
    }

    /** As unmapped(), for calls that refuse where no SHEET fits, too; that comes last, or SPENT could never be told. */
    private int unsheeted() {
        int refusal = unmapped();
        if (refusal != 0) {
            return refusal;
        }
        return atlas.count == 0 ? NO_SUCH : 0;
    }

    private int leadless(int d) {
        if (!within(d, SHELVES)) {
            return NO_SUCH;
        }
        if (shelves[d].holds == NOTHING) {
            return NOTHING_HELD;
        }
        return shelves[d].holds == LEAD ? 0 : OTHER_KIND;
    }

    private boolean isPlace(int k, int place) {
        return within(k, atlas.count) && within(place, atlas.now[k].places);
    }

    private boolean isExplored(Sheet sheet) {
        todo.clear();
        todo.addOnce(sheet.walker);
        for (int i = 0; i < todo.size && i < MAX_PLACES; i++) {
            int place = todo.items[i];
            for (int act = 0; act < MAP_ACTS; act++) {
                if (sheet.leadFrom(place, act) == UNKNOWN) {
                    return false;
                }
                todo.addOnce(sheet.placeAfter(place, act));
            }
        }
        return true;
    }

    /** A SHEET knows every ACT that was done on it, so its PLACES need not be remembered but can be walked again. */
    private int placeBehind(Sheet sheet, int acts) {
        int place = 0;
        for (int i = 0; i < acts; i++) {
            if (walk.acts[i] != PEBBLE_ACT) {
                place = sheet.placeAfter(place, walk.acts[i]);
            }
        }
        return place;
    }

    private boolean agreesWithHouse(Sheet sheet) {
        todo.clear();
        todo.addOnce(sheet.walker * STANDS + house.stand);
        for (int i = 0; i < todo.size && i < PAIRS; i++) {
            int pair = todo.items[i];
            if (!agreesAt(sheet, pair / STANDS, pair % STANDS)) {
                return false;
            }
        }
        return true;
    }

    private boolean agreesAt(Sheet sheet, int place, int stand) {
        if (sheet.signs[place] != house.signs[cellOf(stand)]) {
            return false;
        }
        for (int act = 0; act < MAP_ACTS; act++) {
            int lead = sheet.leadFrom(place, act);
            if (lead == UNKNOWN) {
                continue;
            }
            int to = house.after(stand, act);
            if ((lead == BUMP) != (to == BUMP)) {
                return false;
            }
            if (lead != BUMP) {
                todo.addOnce(lead * STANDS + to);
            }
        }
        return true;
    }

    private int keepLead(Shelf shelf, int k) {
        if (!within(k, house.cells * DIRECTIONS)) {
            return NO_SUCH;
        }
        shelf.holdLead(house.kinds[k], house.targets[k]);
        return 0;
    }

    private int keepActs(Shelf shelf) {
        if (!started) {
            return NO_SUCH;
        }
        int n = Math.min(walk.length, MAX_ROW);
        shelf.holdRow(BYTES, n);
        for (int i = 0; i < n; i++) {
            shelf.row[i] = walk.acts[walk.length - n + i];
        }
        return 0;
    }

    private int keepSigns(Shelf shelf, int k) {
        if (!within(k, atlas.count)) {
            return NO_SUCH;
        }
        Sheet sheet = atlas.now[k];
        shelf.holdRow(LONGS, sheet.places);
        for (int place = 0; place < sheet.places; place++) {
            shelf.row[place] = sheet.signs[place];
        }
        return 0;
    }

    /** THE HOUSE and where THE WALKER stands in it; a stand is one number for CELL, TURN and SWITCH. */
    private static final class House {
        private final int[] signs = new int[MAX_CELLS];
        private final boolean[] plates = new boolean[MAX_CELLS];
        private final int[] kinds = new int[MAX_CELLS * DIRECTIONS];
        private final int[] targets = new int[MAX_CELLS * DIRECTIONS];
        private int cells;
        private int stand;
        private int pebble = CARRIED;

        private int addCell(int sign, boolean plate) {
            int added = cells;
            signs[added] = sign;
            plates[added] = plate;
            cells++;
            return added;
        }

        private int setLead(int index, int kind, int to) {
            int before = kinds[index];
            kinds[index] = kind;
            targets[index] = to;
            return before;
        }

        private void begin() {
            stand = standOf(0, 0, 0);
            pebble = CARRIED;
        }

        private int sight(boolean bumped) {
            int cell = cellOf(stand);
            return sightOf(bumped, signs[cell], pebble == cell);
        }

        /** Whether it BUMPED. */
        private boolean perform(int act) {
            if (act == PEBBLE_ACT) {
                movePebble();
                return false;
            }
            int to = after(stand, act);
            if (to == BUMP) {
                return true;
            }
            stand = to;
            return false;
        }

        private void movePebble() {
            int cell = cellOf(stand);
            if (pebble == CARRIED) {
                pebble = cell;
            } else if (pebble == cell) {
                pebble = CARRIED;
            }
        }

        /** The stand behind an ACT of 0 .. 4 from any stand, or BUMP. */
        private int after(int from, int act) {
            int cell = cellOf(from);
            int turn = turnOf(from);
            int on = switchOf(from);
            if (act == PRESS) {
                return plates[cell] ? standOf(cell, turn, 1 - on) : from;
            }
            int i = (act + turn) % DIRECTIONS;
            int index = cell * DIRECTIONS + i;
            switch (kinds[index]) {
                case WALL:
                    return BUMP;
                case DOOR:
                    return on == 0 ? BUMP : standOf(targets[index], turn, on);
                case SLIDE:
                    return standOf(slideEnd(targets[index], i), turn, on);
                case TURN:
                    return standOf(targets[index], (turn + 1) % DIRECTIONS, on);
                case GATE:
                    return on == 0 ? BUMP : standOf(targets[index], turn, 0);
                default:
                    return standOf(targets[index], turn, on);
            }
        }

        private int slideEnd(int first, int i) {
            int cell = first;
            for (int n = 0; n < SLIDES_ON && kinds[cell * DIRECTIONS + i] == SLIDE; n++) {
                cell = targets[cell * DIRECTIONS + i];
            }
            return cell;
        }
    }

    /** THE WALK since the latest start. */
    private static final class Walk {
        private final int[] acts = new int[MAX_WALK];
        private final int[] sights = new int[MAX_WALK];
        private int length;

        private void add(int act, int sight) {
            acts[length] = act;
            sights[length] = sight;
            length++;
        }

        private boolean bumpedLast() {
            return length > 0 && bumpOf(sights[length - 1]) == 1;
        }
    }

    /** A map of few PLACES: a SHEET, or THE HAND's. */
    private static final class Sheet {
        private final int[] signs = new int[MAX_PLACES];
        private final int[] leads = new int[MAX_PLACES * MAP_ACTS];
        private int places;
        private int walker;
        private int pebble = CARRIED;

        private Sheet() {
            Arrays.fill(leads, UNKNOWN);
        }

        private void begin(int sign) {
            Arrays.fill(leads, UNKNOWN);
            places = 0;
            openPlace(sign);
            returnToStart();
        }

        private void returnToStart() {
            walker = 0;
            pebble = CARRIED;
        }

        private void become(Sheet other) {
            System.arraycopy(other.signs, 0, signs, 0, MAX_PLACES);
            System.arraycopy(other.leads, 0, leads, 0, MAX_PLACES * MAP_ACTS);
            places = other.places;
            walker = other.walker;
            pebble = other.pebble;
        }

        private void openPlace(int sign) {
            signs[places] = sign;
            places++;
        }

        private int leadFrom(int place, int act) {
            return leads[place * MAP_ACTS + act];
        }

        private void setLead(int place, int act, int lead) {
            leads[place * MAP_ACTS + act] = lead;
        }

        private int placeAfter(int place, int act) {
            int lead = leadFrom(place, act);
            return lead < 0 ? place : lead;
        }

        private int sightAt(int place, boolean bumped) {
            return sightOf(bumped, signs[place], pebble == place);
        }

        /** What is SHOWN for an ACT, a sight or UNKNOWN. */
        private int sightAfter(int place, int act) {
            int lead = leadFrom(place, act);
            if (lead == UNKNOWN) {
                return UNKNOWN;
            }
            return lead == BUMP ? sightAt(place, true) : sightAt(lead, false);
        }

        private void movePebble() {
            if (pebble == CARRIED) {
                pebble = walker;
            } else if (pebble == walker) {
                pebble = CARRIED;
            }
        }

        /** Does an ACT by what is known; false where it would not have shown that sight. */
        private boolean follow(int act, int sight) {
            if (act == PEBBLE_ACT) {
                movePebble();
                return sightAt(walker, false) == sight;
            }
            if (sightAfter(walker, act) != sight) {
                return false;
            }
            walker = placeAfter(walker, act);
            return true;
        }

        private int countKnown() {
            int known = 0;
            for (int i = 0; i < places * MAP_ACTS; i++) {
                if (leads[i] != UNKNOWN) {
                    known++;
                }
            }
            return known;
        }
    }

    /** All SHEETS that fit; they are written from one array into the other, and each is made once and used again. */
    private static final class Atlas {
        private Sheet[] now = new Sheet[MAX_SHEETS + 1];
        private Sheet[] spare = new Sheet[MAX_SHEETS + 1];
        private int count;
        private int spared;
        private int mostPlaces;
        private boolean spent;

        private void begin(int m, int sign) {
            mostPlaces = m;
            spent = false;
            count = 1;
            blank(now, 0).begin(sign);
        }

        /** Most walks need few SHEETS, so they are made only when they are wanted. */
        private static Sheet blank(Sheet[] pile, int k) {
            if (pile[k] == null) {
                pile[k] = new Sheet();
            }
            return pile[k];
        }

        private void advance(int act, int sight) {
            if (act == PEBBLE_ACT) {
                movePebbles();
                return;
            }
            spared = 0;
            for (int k = 0; k < count; k++) {
                spread(now[k], act, sight);
            }
            Sheet[] old = now;
            now = spare;
            spare = old;
            spent = spent || spared > MAX_SHEETS;
            count = spent ? 0 : spared;
        }

        /** Each SHEET has the PEBBLE in hand, underfoot or elsewhere just as THE HOUSE has, so the same is done on all. */
        private void movePebbles() {
            for (int k = 0; k < count; k++) {
                now[k].movePebble();
            }
        }

        private void spread(Sheet sheet, int act, int sight) {
            int shown = sheet.sightAfter(sheet.walker, act);
            if (shown == sight) {
                put(sheet, act, sheet.leadFrom(sheet.walker, act), sight);
            } else if (shown == UNKNOWN) {
                guess(sheet, act, sight);
            }
        }

        private void guess(Sheet sheet, int act, int sight) {
            if (bumpOf(sight) == 1) {
                put(sheet, act, BUMP, sight);
                return;
            }
            for (int place = 0; place < sheet.places; place++) {
                if (sheet.sightAt(place, false) == sight) {
                    put(sheet, act, place, sight);
                }
            }
            if (sheet.places < mostPlaces && pebbleOf(sight) == 0) {
                put(sheet, act, sheet.places, sight);
            }
        }

        private void put(Sheet from, int act, int lead, int sight) {
            // One more than may be is enough to know that they are SPENT.
            if (spared > MAX_SHEETS) {
                return;
            }
            Sheet sheet = blank(spare, spared);
            spared++;
            sheet.become(from);
            sheet.setLead(sheet.walker, act, lead);
            if (lead == sheet.places) {
                sheet.openPlace(signOf(sight));
            }
            sheet.walker = sheet.placeAfter(sheet.walker, act);
        }
    }

    /** Counts into how many sets a row of ACTS PARTS the SHEETS. */
    private static final class Parting {
        // All sights, and behind them what is unknown.
        private static final int SHOWN = SIGHTS + 1;

        private final int[] places = new int[MAX_SHEETS];
        private final int[] sets = new int[MAX_SHEETS];
        // For each set so far and all that can be SHOWN next the set that comes of them, from 1; 0: none yet.
        private final int[] finer = new int[MAX_SHEETS * SHOWN];
        private int count;

        private int bestRow(Atlas atlas, int n) {
            int most = 0;
            int best = 0;
            for (int length = 1; length <= n; length++) {
                // Once every SHEET is alone no row can do better, and the shortest came first.
                for (int digits = 0; digits < ROWS_OF_ACTS[length] && most < atlas.count; digits++) {
                    int parts = countSets(atlas, length, digits);
                    if (parts > most) {
                        most = parts;
                        best = NEXT_UNIT * length + digits;
                    }
                }
            }
            return best;
        }

        private int countSets(Atlas atlas, int n, int digits) {
            count = 1;
            for (int k = 0; k < atlas.count; k++) {
                places[k] = atlas.now[k].walker;
                sets[k] = 0;
            }
            for (int i = 1; i <= n; i++) {
                refine(atlas, digits / ROWS_OF_ACTS[n - i] % MAP_ACTS);
            }
            return count;
        }

        private void refine(Atlas atlas, int act) {
            Arrays.fill(finer, 0, count * SHOWN, 0);
            count = 0;
            for (int k = 0; k < atlas.count; k++) {
                Sheet sheet = atlas.now[k];
                // Behind an unknown ACT the walker is nowhere, since all that follows is unknown, too.
                int sight = places[k] == UNKNOWN ? UNKNOWN : sheet.sightAfter(places[k], act);
                places[k] = sight == UNKNOWN ? UNKNOWN : sheet.placeAfter(places[k], act);
                int key = sets[k] * SHOWN + (sight == UNKNOWN ? SIGHTS : sight);
                if (finer[key] == 0) {
                    count++;
                    finer[key] = count;
                }
                sets[k] = finer[key] - 1;
            }
        }
    }

    /** The way that was told last; a search that fails leaves it as it is. */
    private static final class Route {
        private static final int FAR = MAX_PLACES;

        private final int[] away = new int[MAX_PLACES];
        private final int[] acts = new int[MAX_PLACES];
        private int length;

        private boolean find(Sheet sheet, int goal) {
            measure(sheet, goal);
            if (away[sheet.walker] >= FAR) {
                return false;
            }
            length = away[sheet.walker];
            int place = sheet.walker;
            for (int i = 0; i < length; i++) {
                acts[i] = nearerBy(sheet, place);
                place = sheet.placeAfter(place, acts[i]);
            }
            return true;
        }

        private void measure(Sheet sheet, int goal) {
            Arrays.fill(away, FAR);
            away[goal] = 0;
            // No fewest way has as many steps as there are PLACES, so as many rounds settle all.
            for (int round = 0; round < sheet.places; round++) {
                for (int place = 0; place < sheet.places; place++) {
                    for (int act = 0; act < MAP_ACTS; act++) {
                        int to = sheet.placeAfter(place, act);
                        away[place] = Math.min(away[place], away[to] + 1);
                    }
                }
            }
        }

        private int nearerBy(Sheet sheet, int place) {
            int act = 0;
            while (act < MAP_ACTS - 1 && away[sheet.placeAfter(place, act)] >= away[place]) {
                act++;
            }
            return act;
        }
    }

    /** Numbers to be looked at, each once, in the order in which they came. */
    private static final class Todo {
        private final int[] items = new int[PAIRS];
        private final boolean[] had = new boolean[PAIRS];
        private int size;

        private void clear() {
            for (int i = 0; i < size; i++) {
                had[items[i]] = false;
            }
            size = 0;
        }

        private void addOnce(int item) {
            if (within(item, PAIRS) && !had[item]) {
                had[item] = true;
                items[size] = item;
                size++;
            }
        }
    }

    /** Holds nothing, a LEAD as it was, or a ROW; its one array serves every ROW that it comes to hold. */
    private static final class Shelf {
        private final long[] row = new long[MAX_ROW];
        private int holds = NOTHING;
        private int kind;
        private int to;
        private int size;

        private void holdLead(int leadKind, int leadTo) {
            holds = LEAD;
            kind = leadKind;
            to = leadTo;
        }

        private void holdRow(int what, int n) {
            holds = what;
            size = n;
            Arrays.fill(row, 0L);
        }

        private boolean isRow() {
            return holds == BYTES || holds == LONGS;
        }

        private boolean hasStretch(int i, int n) {
            // Not i + n <= size: that sum may overflow.
            return i >= 0 && n >= 0 && i <= size && n <= size - i;
        }

        /** WALLS have no FAILURE, and only there this comes back. */
        private void fail() {
            if (kind != WALL) {
                throw new IllegalStateException("the lead failed");
            }
        }
    }
}
