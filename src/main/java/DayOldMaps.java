import java.util.Arrays;

/**
 * A delta whose channels shift every night, the maps of it that are a day old, and the ships that
 * steer by them. What each call answers is told in DOC.md; a refusal is a number below zero.
 */
public final class DayOldMaps {
    public static final int NONE = -1, BAD = -2, NOT = -3, FULL = -4;

    private static final int LAST_NIGHT = 99;
    private static final int DEEPEST = 9;
    private static final int MOST_CHANNELS = 16;
    private static final int FIRST_PLACE = 0, LAST_PLACE = 5;
    private static final int LONGEST_ROW = 5;

    // What is told of a channel, numbered as channel() asks for it.
    private static final int FROM = 0, TO = 1, DEEP = 2, SHIFT = 3, EVERY = 4;
    private static final int FACTS = 5;

    // How a channel shifts, numbered as channel() and laws() tell it.
    private static final int WALKS = 0, RETURNS = 1, SILTS = 2, PAIRS = 3, JUMPS = 4;

    private static final int SIXTEENTHS = 16;
    // The chance of a row is a product of at most five sixteenths, so it is counted in 16 to the 5th.
    private static final int CERTAIN = 1048576;

    private static final int MOST_SHEETS = 4, MOST_ITEMS = 60;
    private static final int BYTES = 0, SHORTS = 1, INTS = 2;
    private static final int NULL = 1, INDEX = 2, CAST = 3, STORE = 4, SIZE = 5;
    private static final int LEAST_INT = -2147483648;

    private static final int[] DIGEST_NIGHTS = {0, 1, 7, 50};
    private static final int[] DIGEST_DRAUGHTS = {2, 5};

    private final Delta delta;
    private final Soundings soundings;
    private final Rows rows;
    private final Sheet[] sheets;
    // Work rows, an item a channel: made once, since all that any call makes is counted.
    private final int[] depths;
    private final int[] others;
    private int oddsOfStorm;
    private int finding;

    public DayOldMaps() {
        delta = new Delta();
        soundings = new Soundings();
        rows = new Rows();
        sheets = new Sheet[MOST_SHEETS];
        for (int s = 0; s < sheets.length; s++) sheets[s] = new Sheet();
        depths = new int[MOST_CHANNELS];
        others = new int[MOST_CHANNELS];
        oddsOfStorm = 4;
        finding = 0;
    }

    // ---- the delta

    public int type(int b) {
        if (b < 0 || b > 255) return BAD;
        if (!delta.addByte(b)) return FULL;
        return delta.length;
    }

    public int wipe() {
        int had = delta.length;
        delta.cutTo(0);
        return had;
    }

    public int undo() {
        if (delta.channels == 0) return NOT;
        delta.dropLastChannel();
        return delta.channels;
    }

    public int fault() {
        return delta.faultAt;
    }

    public int channel(int channel, int what) {
        return delta.fact(channel, what);
    }

    public int storm(int night) {
        if (!isNight(night)) return BAD;
        if (!delta.addStorm(night)) return FULL;
        return delta.storms;
    }

    public int calm() {
        if (!delta.dropStorm()) return NOT;
        return delta.storms;
    }

    public int odds(int v) {
        if (v < 0 || v > SIXTEENTHS) return BAD;
        int were = oddsOfStorm;
        oddsOfStorm = v;
        return were;
    }

    public int deep(int channel, int night) {
        if (!delta.hasChannel(channel) || !isNight(night)) return BAD;
        return delta.depth(channel, night, delta.isStormy(night));
    }

    public int map(int channel, int night) {
        if (!isNight(night)) return BAD;
        return deep(channel, nightShown(night));
    }

    // ---- ways

    public int ways(int draught, int night, int i) {
        if (!isShip(draught, night) || i < NONE || i >= LONGEST_ROW) return BAD;
        delta.fill(depths, night, delta.isStormy(night));
        if (i == NONE) return rows.tally(delta, depths, draught);
        rows.findLeast(delta, depths, draught);
        return rows.step(i);
    }

    public int draft(int night) {
        if (!isNight(night)) return BAD;
        delta.fill(depths, night, delta.isStormy(night));
        for (int draught = DEEPEST; draught > 0; draught--) {
            if (rows.findLeast(delta, depths, draught)) return draught;
        }
        return NONE;
    }

    public int waits(int draught, int night) {
        if (!isShip(draught, night)) return BAD;
        for (int later = night; later <= LAST_NIGHT; later++) {
            if (isOpen(draught, later, delta.isStormy(later))) return later;
        }
        return NONE;
    }

    public int byMap(int draught, int night) {
        if (!isShip(draught, night)) return BAD;
        if (!findByMap(draught, night)) return NOT;
        return aground(draught, night, delta.isStormy(night));
    }

    public int byChange(int draught, int night) {
        if (!isShip(draught, night)) return BAD;
        if (!findByChange(draught, night)) return NOT;
        return aground(draught, night, delta.isStormy(night));
    }

    public int saved(int draught, int what) {
        if (!isDraught(draught) || what < 0 || what > 1) return BAD;
        int nights = 0;
        for (int night = 2; night <= LAST_NIGHT; night++) {
            boolean mapped = passesByMap(draught, night);
            boolean reckoned = passesByChange(draught, night);
            if (what == 0 ? reckoned && !mapped : mapped && !reckoned) nights++;
        }
        return nights;
    }

    // ---- soundings, wrecks

    public int sounded(int night, int channel, int deep) {
        if (!isSounding(night, channel, deep)) return BAD;
        if (!soundings.add(night, channel, deep)) return FULL;
        return soundings.size;
    }

    public int forget() {
        int had = soundings.size;
        soundings.drop();
        return had;
    }

    public int read(int s) {
        Sheet sheet = sheetAt(s);
        if (sheet == null) return BAD;
        if (sheet.isLost()) return found(NULL);
        int came = 0;
        for (int i = 0; i + 2 < sheet.size; i += 3) {
            int night = sheet.itemAt(i), channel = sheet.itemAt(i + 1), deep = sheet.itemAt(i + 2);
            if (!isSounding(night, channel, deep) || !soundings.add(night, channel, deep)) break;
            came++;
        }
        return came;
    }

    public int laws(int channel, int i) {
        if (!delta.hasChannel(channel) || i < NONE || i >= Soundings.LAWS) return BAD;
        long fitting = soundings.fitting(channel, delta.fact(channel, DEEP));
        if (i == NONE) return Long.bitCount(fitting);
        return Soundings.lawAt(fitting, i);
    }

    public int next(int channel, int night) {
        if (!delta.hasChannel(channel) || !isNight(night)) return BAD;
        int told = delta.fact(channel, DEEP);
        return Soundings.depthBits(soundings.fitting(channel, told), told, night);
    }

    public int tells(int channel, int night) {
        if (!delta.hasChannel(channel) || !isNight(night)) return BAD;
        int told = delta.fact(channel, DEEP);
        long fitting = soundings.fitting(channel, told);
        int best = night, least = Soundings.LAWS + 1;
        for (int later = night; later < night + 20 && later <= LAST_NIGHT; later++) {
            int alike = soundings.mostAlike(fitting, told, later);
            if (alike < least) {
                least = alike;
                best = later;
            }
        }
        return best;
    }

    public int wreck(int draught, int channel, int night) {
        if (!isShip(draught, night) || !delta.hasChannel(channel)) return BAD;
        boolean stormy = delta.isStormy(night);
        int maps = 0;
        for (int back = 0; back <= 30 && back <= night; back++) {
            boolean steered = findByMap(draught, night - back);
            if (steered && aground(draught, night, stormy) == channel) maps |= 1 << back;
        }
        return maps;
    }

    // ---- storms by chance

    public int through(int draught, int night, int what) {
        if (!isShip(draught, night) || what < 0 || what > 1) return BAD;
        int above = 0;
        if (isOpen(draught, night, true)) above += oddsOfStorm;
        if (isOpen(draught, night, false)) above += SIXTEENTHS - oddsOfStorm;
        return inLowestTerms(above, SIXTEENTHS, what);
    }

    public int sure(int draught, int night, int i) {
        if (!isShip(draught, night) || i < 0 || i >= LONGEST_ROW) return BAD;
        delta.fill(depths, night, false);
        delta.fill(others, night, true);
        for (int c = 0; c < depths.length && c < others.length; c++) {
            depths[c] = Math.min(depths[c], others[c]);
        }
        rows.findLeast(delta, depths, draught);
        return rows.step(i);
    }

    public int safest(int draught, int night, int i) {
        if (!isShip(draught, night) || i < -2 || i >= LONGEST_ROW) return BAD;
        int chance = findSafest(draught, night);
        if (i < 0) return inLowestTerms(chance, CERTAIN, i + 2);
        return rows.step(i);
    }

    public int worth(int draught, int night) {
        if (!isShip(draught, night)) return -100 + BAD;
        int fresh = 0, stale = 0;
        for (int later = night; later < night + 10 && later <= LAST_NIGHT; later++) {
            boolean stormy = delta.isStormy(later);
            if (findByMap(draught, later) && aground(draught, later, stormy) == NONE) fresh++;
        }
        // Only now is the first night's row sought: the count above left other rows behind it.
        if (!findByMap(draught, night)) return fresh;
        for (int later = night; later < night + 10 && later <= LAST_NIGHT; later++) {
            if (aground(draught, later, delta.isStormy(later)) == NONE) stale++;
        }
        return fresh - stale;
    }

    public int season(int seed, int draught, int night, int n) {
        if (!isShip(draught, night) || n < 0 || n > 40) return BAD;
        int lots = seed, nights = 0;
        for (int later = night; later < night + n && later <= LAST_NIGHT; later++) {
            lots = 1103515245 * lots + 12345;
            boolean drawn = (lots >>> 16) % SIXTEENTHS < oddsOfStorm;
            boolean stormy = drawn || delta.isStormy(later);
            if (findByMap(draught, later) && aground(draught, later, stormy) == NONE) nights++;
        }
        return nights;
    }

    // ---- sheets

    public int sheet(int s, int form, int n) {
        Sheet sheet = sheetAt(s);
        if (sheet == null || !isForm(form) || n > MOST_ITEMS) return BAD;
        if (n < 0) return found(SIZE);
        sheet.renew(form, n);
        return n;
    }

    public int lose(int s) {
        Sheet sheet = sheetAt(s);
        if (sheet == null) return BAD;
        if (sheet.isLost()) return found(NULL);
        int had = sheet.size;
        sheet.renew(NONE, 0);
        return had;
    }

    public int lay(int s, int form, int i, int v) {
        Sheet sheet = sheetAt(s);
        int refused = refusalOfItem(sheet, form, i);
        if (sheet == null || refused != 0) return refused;
        sheet.put(i, v);
        return 1;
    }

    public int get(int s, int form, int i) {
        Sheet sheet = sheetAt(s);
        int refused = refusalOfItem(sheet, form, i);
        if (sheet == null || refused != 0) return LEAST_INT;
        return sheet.itemAt(i);
    }

    public int copy(int s, int i, int t, int j, int n) {
        Sheet source = sheetAt(s), target = sheetAt(t);
        if (source == null || target == null) return BAD;
        if (source.isLost() || target.isLost()) return found(NULL);
        if (source.form != target.form) return found(STORE);
        if (!source.hasItems(i, n) || !target.hasItems(j, n)) return found(INDEX);
        System.arraycopy(source.items, i, target.items, j, n);
        return 1;
    }

    public int write(int what, int night, int s) {
        Sheet sheet = sheetAt(s);
        if (what < 0 || what > 1 || !isNight(night) || sheet == null) return BAD;
        if (sheet.isLost()) return found(NULL);
        int written = 0;
        for (int c = 0; c < delta.channels && c < sheet.size; c++) {
            sheet.put(c, what == 0 ? deep(c, night) : map(c, night));
            written++;
        }
        return written;
    }

    public int count(int what) {
        switch (what) {
            case 0: return delta.channels;
            case 1: return delta.length;
            case 2: return delta.storms;
            case 3: return soundings.size;
            case 4: return oddsOfStorm;
            case 5: return delta.toldTogether();
            case 6: return delta.jumping();
            case 7: return allRows();
            case 8: return finding;
            default: return BAD;
        }
    }

    public long digest() {
        long h = 17;
        for (int what = 0; what <= 7; what++) h = mix(h, count(what));
        h = mix(h, fault());
        for (int c = 0; c < delta.channels; c++) h = digestChannel(h, c);
        for (int night : DIGEST_NIGHTS) h = digestNight(h, night);
        for (int draught : DIGEST_DRAUGHTS) {
            h = mix(h, saved(draught, 0));
            h = mix(h, saved(draught, 1));
            h = mix(h, wreck(draught, 1, 9));
            h = mix(h, season(7, draught, 3, 20));
        }
        return h;
    }

    private long digestChannel(long start, int c) {
        long h = start;
        for (int what = 0; what < FACTS; what++) h = mix(h, channel(c, what));
        h = mix(h, deep(c, 7));
        h = mix(h, map(c, 7));
        h = mix(h, laws(c, NONE));
        h = mix(h, laws(c, 0));
        h = mix(h, next(c, 9));
        return mix(h, tells(c, 3));
    }

    private long digestNight(long start, int night) {
        long h = mix(start, draft(night));
        for (int draught : DIGEST_DRAUGHTS) {
            h = mix(h, ways(draught, night, NONE));
            h = mix(h, ways(draught, night, 0));
            h = mix(h, waits(draught, night));
            h = mix(h, byMap(draught, night));
            h = mix(h, byChange(draught, night));
            h = mix(h, through(draught, night, 0));
            h = mix(h, through(draught, night, 1));
            h = mix(h, sure(draught, night, 0));
            for (int i = -2; i <= 0; i++) h = mix(h, safest(draught, night, i));
            h = mix(h, worth(draught, night));
        }
        return h;
    }

    private static long mix(long h, int v) {
        return 31 * h + v;
    }

    // ---- what numbers may be told

    private static boolean isNight(int night) {
        return night >= 0 && night <= LAST_NIGHT;
    }

    private static boolean isDraught(int draught) {
        return draught >= 1 && draught <= DEEPEST;
    }

    private static boolean isShip(int draught, int night) {
        return isDraught(draught) && isNight(night);
    }

    private static boolean isSounding(int night, int channel, int deep) {
        boolean somewhere = channel >= 0 && channel < MOST_CHANNELS;
        return isNight(night) && somewhere && deep >= 0 && deep <= DEEPEST;
    }

    private static boolean isForm(int form) {
        return form >= BYTES && form <= INTS;
    }

    // ---- ships and their rows

    /** Whether any row is deep enough on a night with a storm or without one. */
    private boolean isOpen(int draught, int night, boolean stormy) {
        delta.fill(depths, night, stormy);
        return rows.findLeast(delta, depths, draught);
    }

    /** Finds the least row that the map of a night shows as deep enough. */
    private boolean findByMap(int draught, int night) {
        int shown = nightShown(night);
        delta.fill(depths, shown, delta.isStormy(shown));
        return rows.findLeast(delta, depths, draught);
    }

    /** Finds the least row that is deep enough if all goes on as it went between two maps. */
    private boolean findByChange(int draught, int night) {
        int newer = nightShown(night);
        int older = nightShown(Math.max(0, night - 1));
        delta.fill(depths, newer, delta.isStormy(newer));
        delta.fill(others, older, delta.isStormy(older));
        for (int c = 0; c < depths.length && c < others.length; c++) {
            int reckoned = depths[c] + depths[c] - others[c];
            depths[c] = Math.max(0, Math.min(DEEPEST, reckoned));
        }
        return rows.findLeast(delta, depths, draught);
    }

    /** The first channel of the found row that is not deep enough on a night; NONE. */
    private int aground(int draught, int night, boolean stormy) {
        for (int i = 0; i < rows.length; i++) {
            int c = rows.step(i);
            if (delta.depth(c, night, stormy) < draught) return c;
        }
        return NONE;
    }

    private boolean passesByMap(int draught, int night) {
        return findByMap(draught, night)
            && aground(draught, night, delta.isStormy(night)) == NONE;
    }

    private boolean passesByChange(int draught, int night) {
        return findByChange(draught, night)
            && aground(draught, night, delta.isStormy(night)) == NONE;
    }

    /** Finds the row of the greatest chance: that chance, of CERTAIN; 0 where there is no row. */
    private int findSafest(int draught, int night) {
        delta.fill(depths, night, false);
        delta.fill(others, night, true);
        for (int c = 0; c < depths.length && c < others.length; c++) {
            int chance = depths[c] >= draught ? SIXTEENTHS - oddsOfStorm : 0;
            if (others[c] >= draught) chance += oddsOfStorm;
            depths[c] = chance;
        }
        int best = rows.findLikeliest(delta, depths);
        if (best > 0) return best;
        // With no hope all rows are alike, whatever goes on behind a channel that is closed.
        rows.findLeast(delta, depths, 0);
        return 0;
    }

    private int allRows() {
        delta.fill(depths, 0, false);
        return rows.tally(delta, depths, 0);
    }

    /** The night whose depths the map of a night shows. */
    private static int nightShown(int night) {
        return Math.max(0, night - 1);
    }

    /** A fraction by a power of two, in lowest terms (0 by 1): above (what = 0), below (1). */
    private static int inLowestTerms(int above, int below, int what) {
        int top = above, bottom = below;
        for (int k = 0; k < 32 && top % 2 == 0 && bottom % 2 == 0; k++) {
            top /= 2;
            bottom /= 2;
        }
        return what == 0 ? top : bottom;
    }

    // ---- sheets and rows of numbers

    private Sheet sheetAt(int s) {
        return s >= 0 && s < sheets.length ? sheets[s] : null;
    }

    private int refusalOfItem(Sheet sheet, int form, int i) {
        if (sheet == null || !isForm(form)) return BAD;
        if (sheet.isLost()) return found(NULL);
        if (sheet.form != form) return found(CAST);
        return sheet.hasItems(i, 1) ? 0 : found(INDEX);
    }

    private int found(int number) {
        finding = number;
        return -10 - number;
    }

    private static int itemOf(int[] row, int i) {
        return i >= 0 && i < row.length ? row[i] : NONE;
    }

    private static void putInto(int[] row, int i, int v) {
        if (i >= 0 && i < row.length) row[i] = v;
    }

    /** How deep a channel of a kind is on a night, when it was so deep as told in night 0. */
    private static int shifted(int kind, int told, int every, int night, boolean stormy) {
        if (kind == JUMPS) return stormy ? DEEPEST - told : told;
        if (every < 1) return told;
        int times = night / every;
        switch (kind) {
            case WALKS: return (told + times) % 10;
            case RETURNS: return night % every == 0 ? told : 0;
            case SILTS: return times < told ? told - times : 0;
            case PAIRS: return times % 2 == 0 ? told : DEEPEST - told;
            default: return told;
        }
    }

    /** The text of the delta, the channels that it tells, and the storms. */
    private static final class Delta {
        private static final int STRIDE = 6;
        private static final int MOST_BYTES = 95;
        private static final int MOST_STORMS = 8;
        private static final String KINDS = "wrspj";

        private final int[] text;
        private int length;
        private int faultAt;
        private int channels;
        private final int[] facts;
        // The channels, those of the last places first, so that one pass finds all ways onward;
        // of one place the greatest first, so that what is found last is the least.
        private final int[] order;
        private final int[] stormNights;
        private int storms;

        Delta() {
            text = new int[MOST_BYTES];
            length = 0;
            faultAt = NONE;
            channels = 0;
            facts = new int[MOST_CHANNELS * FACTS];
            order = new int[MOST_CHANNELS];
            stormNights = new int[MOST_STORMS];
            storms = 0;
        }

        /** Whether there was room for the byte. */
        boolean addByte(int b) {
            if (length < 0 || length >= text.length) return false;
            text[length] = b;
            length++;
            understand();
            return true;
        }

        void cutTo(int bytes) {
            length = bytes;
            understand();
        }

        void dropLastChannel() {
            // The ; ahead of a channel goes with it; the first one has none.
            cutTo(Math.max(0, (channels - 1) * STRIDE - 1));
        }

        private void understand() {
            faultAt = firstFault();
            channels = faultAt == NONE ? (length + 1) / STRIDE : 0;
            for (int c = 0; c < channels; c++) learn(c);
            putInOrder();
        }

        // A seventeenth channel needs no look: the text has no room for it.
        private int firstFault() {
            for (int i = 0; i < length; i++) {
                if (!isWell(i)) return i;
            }
            return length == 0 || length % STRIDE == STRIDE - 1 ? NONE : length;
        }

        /** Whether the text can go on with its byte i, if all bytes ahead of it are well. */
        private boolean isWell(int i) {
            int b = itemOf(text, i);
            switch (i % STRIDE) {
                case 0: return b >= 'a' && b <= 'f';
                case 1: return b > itemOf(text, i - 1) && b <= 'f';
                case 2: return b >= '0' && b <= '9';
                case 3: return KINDS.indexOf((char) b) >= 0;
                case 4: return b >= '1' && b <= '9';
                default: return b == ';';
            }
        }

        private void learn(int c) {
            int at = c * STRIDE, to = c * FACTS;
            putInto(facts, to + FROM, itemOf(text, at) - 'a');
            putInto(facts, to + TO, itemOf(text, at + 1) - 'a');
            putInto(facts, to + DEEP, itemOf(text, at + 2) - '0');
            putInto(facts, to + SHIFT, KINDS.indexOf((char) itemOf(text, at + 3)));
            putInto(facts, to + EVERY, itemOf(text, at + 4) - '0');
        }

        private void putInOrder() {
            int k = 0;
            for (int place = LAST_PLACE; place >= FIRST_PLACE; place--) {
                for (int c = channels - 1; c >= 0; c--) {
                    if (fact(c, FROM) == place) {
                        putInto(order, k, c);
                        k++;
                    }
                }
            }
        }

        boolean hasChannel(int c) {
            return c >= 0 && c < channels;
        }

        /** What is told of a channel; BAD: no such channel, no such fact. */
        int fact(int c, int what) {
            if (c < 0 || c >= channels || what < 0 || what >= FACTS) return BAD;
            int at = c * FACTS + what;
            return at < facts.length ? facts[at] : BAD;
        }

        int depth(int c, int night, boolean stormy) {
            return shifted(fact(c, SHIFT), fact(c, DEEP), fact(c, EVERY), night, stormy);
        }

        /** How deep all channels are on a night comes into a row. */
        void fill(int[] into, int night, boolean stormy) {
            for (int c = 0; c < channels && c < into.length; c++) into[c] = depth(c, night, stormy);
        }

        int toldTogether() {
            int sum = 0;
            for (int c = 0; c < channels; c++) sum += fact(c, DEEP);
            return sum;
        }

        int jumping() {
            int jumpers = 0;
            for (int c = 0; c < channels; c++) {
                if (fact(c, SHIFT) == JUMPS) jumpers++;
            }
            return jumpers;
        }

        /** Whether there was room for the storm. */
        boolean addStorm(int night) {
            if (storms < 0 || storms >= stormNights.length) return false;
            stormNights[storms] = night;
            storms++;
            return true;
        }

        /** Whether there was a storm to undo. */
        boolean dropStorm() {
            if (storms == 0) return false;
            storms--;
            return true;
        }

        boolean isStormy(int night) {
            for (int k = 0; k < storms && k < stormNights.length; k++) {
                if (stormNights[k] == night) return true;
            }
            return false;
        }
    }

    /** The search for rows from the first place to the last, and the row that it found. */
    private static final class Rows {
        // By places: the channel to go on by from there, and what was counted from there on.
        private final int[] onward;
        private final int[] counted;
        private final int[] steps;
        private int length;

        Rows() {
            onward = new int[LAST_PLACE + 1];
            counted = new int[LAST_PLACE + 1];
            steps = new int[LONGEST_ROW];
            length = 0;
        }

        /** Finds the least row of channels that all have so much: whether there is one. */
        boolean findLeast(Delta delta, int[] have, int enough) {
            Arrays.fill(onward, NONE);
            // Any number but NONE says that the last place is reached from itself.
            putInto(onward, LAST_PLACE, 0);
            for (int k = 0; k < delta.channels; k++) {
                int c = itemOf(delta.order, k);
                boolean goesOn = itemOf(onward, delta.fact(c, TO)) != NONE;
                if (goesOn && itemOf(have, c) >= enough) putInto(onward, delta.fact(c, FROM), c);
            }
            return follow(delta);
        }

        /** How many rows there are of channels that all have so much. */
        int tally(Delta delta, int[] have, int enough) {
            Arrays.fill(counted, 0);
            putInto(counted, LAST_PLACE, 1);
            for (int k = 0; k < delta.channels; k++) {
                int c = itemOf(delta.order, k);
                if (itemOf(have, c) < enough) continue;
                int from = delta.fact(c, FROM);
                putInto(counted, from, itemOf(counted, from) + itemOf(counted, delta.fact(c, TO)));
            }
            return itemOf(counted, FIRST_PLACE);
        }

        /**
         * Finds the row with the greatest product of sixteenths, of like ones the least if that is
         * above 0: the product, of CERTAIN; NONE.
         */
        int findLikeliest(Delta delta, int[] sixteenths) {
            Arrays.fill(onward, NONE);
            Arrays.fill(counted, NONE);
            putInto(counted, LAST_PLACE, CERTAIN);
            for (int k = 0; k < delta.channels; k++) {
                int c = itemOf(delta.order, k);
                int beyond = itemOf(counted, delta.fact(c, TO));
                if (beyond == NONE) continue;
                int from = delta.fact(c, FROM);
                int chance = beyond / SIXTEENTHS * itemOf(sixteenths, c);
                if (chance < itemOf(counted, from)) continue;
                putInto(counted, from, chance);
                putInto(onward, from, c);
            }
            follow(delta);
            return itemOf(counted, FIRST_PLACE);
        }

        /** Takes the row that goes onward from the first place: whether it gets to the last. */
        private boolean follow(Delta delta) {
            int place = FIRST_PLACE;
            length = 0;
            while (length < steps.length && place != LAST_PLACE) {
                int c = itemOf(onward, place);
                if (c == NONE) {
                    length = 0;
                    return false;
                }
                steps[length] = c;
                length++;
                place = delta.fact(c, TO);
            }
            return place == LAST_PLACE;
        }

        /** The i-th channel of the found row; NONE. */
        int step(int i) {
            return i < length ? itemOf(steps, i) : NONE;
        }
    }

    /** What was sounded, and the laws of shifting that fit it: as bits, nine of each kind. */
    private static final class Soundings {
        private static final int MOST = 12;
        private static final int LAWS = 36;
        private static final int LAWS_OF_A_KIND = 9;

        private final int[] nights;
        private final int[] places;
        private final int[] deeps;
        private final int[] alike;
        private int size;

        Soundings() {
            nights = new int[MOST];
            places = new int[MOST];
            deeps = new int[MOST];
            alike = new int[DEEPEST + 1];
            size = 0;
        }

        /** Whether there was room for it. */
        boolean add(int night, int channel, int deep) {
            if (size >= MOST) return false;
            putInto(nights, size, night);
            putInto(places, size, channel);
            putInto(deeps, size, deep);
            size++;
            return true;
        }

        void drop() {
            size = 0;
        }

        /** The laws by which all that was sounded in a channel comes out so. */
        long fitting(int channel, int told) {
            long laws = 0;
            for (int law = 0; law < LAWS; law++) {
                if (isFitting(channel, told, law)) laws |= 1L << law;
            }
            return laws;
        }

        private boolean isFitting(int channel, int told, int law) {
            for (int k = 0; k < size; k++) {
                boolean here = itemOf(places, k) == channel;
                if (here && depthBy(law, told, itemOf(nights, k)) != itemOf(deeps, k)) return false;
            }
            return true;
        }

        private static int depthBy(int law, int told, int night) {
            int kind = law / LAWS_OF_A_KIND, every = law % LAWS_OF_A_KIND + 1;
            return shifted(kind, told, every, night, false);
        }

        private static boolean isAmong(long laws, int law) {
            return (laws >> law & 1) == 1;
        }

        /** The i-th of laws, as 10 times its kind and how many nights; NONE. */
        static int lawAt(long laws, int i) {
            int ahead = 0;
            for (int law = 0; law < LAWS; law++) {
                if (!isAmong(laws, law)) continue;
                if (ahead == i) return law / LAWS_OF_A_KIND * 10 + law % LAWS_OF_A_KIND + 1;
                ahead++;
            }
            return NONE;
        }

        /** How deep a channel is on a night by any of laws, as bits. */
        static int depthBits(long laws, int told, int night) {
            int bits = 0;
            for (int law = 0; law < LAWS; law++) {
                if (isAmong(laws, law)) bits |= 1 << depthBy(law, told, night);
            }
            return bits;
        }

        /** The greatest number of laws by which a channel is equally deep on a night. */
        int mostAlike(long laws, int told, int night) {
            int most = 0;
            Arrays.fill(alike, 0);
            for (int law = 0; law < LAWS; law++) {
                if (!isAmong(laws, law)) continue;
                int deep = depthBy(law, told, night);
                int now = itemOf(alike, deep) + 1;
                putInto(alike, deep, now);
                most = Math.max(most, now);
            }
            return most;
        }
    }

    /** A row of items of a form; it is lost as long as its form is NONE. */
    private static final class Sheet {
        private final int[] items;
        private int form;
        private int size;

        Sheet() {
            items = new int[MOST_ITEMS];
            form = NONE;
            size = 0;
        }

        void renew(int newForm, int newSize) {
            Arrays.fill(items, 0);
            form = newForm;
            size = newSize;
        }

        boolean isLost() {
            return form == NONE;
        }

        /** Whether there are n items from i on; of sums that could wrap none is made. */
        boolean hasItems(int i, int n) {
            return i >= 0 && n >= 0 && i <= size && n <= size - i;
        }

        int itemAt(int i) {
            return i < size ? itemOf(items, i) : NONE;
        }

        void put(int i, int v) {
            putInto(items, i, form == BYTES ? (byte) v : form == SHORTS ? (short) v : v);
        }
    }
}
