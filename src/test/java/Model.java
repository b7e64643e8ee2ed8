import java.util.ArrayList;
import java.util.Collections;
import java.util.Comparator;
import java.util.HashMap;
import java.util.List;
import java.util.Map;
import java.util.TreeSet;
import java.util.regex.Matcher;
import java.util.regex.Pattern;

/**
 * The document once more, as plainly as the Java library lets it be said: nights are walked one by
 * one, rows are all listed and sorted, fractions are counted over all storms. It shares no way of
 * counting with the class, so that a slip in one shows against the other.
 */
final class Model {
    private static final int NONE = -1, BAD = -2, NOT = -3, FULL = -4;
    private static final int LEAST = Integer.MIN_VALUE;

    // Nothing stands behind f; a second place of no letter at all keeps f itself well as a first one.
    private static final String CHANNEL =
        "(?:a[b-f]|b[c-f]|c[d-f]|d[ef]|ef|f[^\\x{0}-\\x{ff}])[0-9][wrspj][1-9]";
    private static final Pattern DELTA = Pattern.compile("(?:" + CHANNEL + "(?:;" + CHANNEL + "){0,15})?");

    private record Channel(int from, int to, int told, char kind, int every) {
    }

    private record Sounding(int night, int channel, int deep) {
    }

    private record Sheet(int form, int[] items) {
    }

    private String text = "";
    private final List<Integer> storms = new ArrayList<>();
    private List<Sounding> soundings = new ArrayList<>();
    private final Map<Integer, Sheet> sheets = new HashMap<>();
    private int odds = 4;
    private int finding = 0;
    private List<Channel> channels = List.of();
    private List<List<Integer>> rows = List.of();

    private void understand() {
        channels = new ArrayList<>();
        if (fault() == NONE && !text.isEmpty()) {
            for (String part : text.split(";")) {
                channels.add(new Channel(part.charAt(0) - 'a', part.charAt(1) - 'a', part.charAt(2) - '0',
                    part.charAt(3), part.charAt(4) - '0'));
            }
        }
        rows = new ArrayList<>();
        grow(0, new ArrayList<>());
        Comparator<List<Integer>> firstUnlike = (x, y) -> {
            int k = 0;
            while (k < x.size() && k < y.size() && x.get(k).equals(y.get(k))) k++;
            return k < x.size() && k < y.size() ? x.get(k) - y.get(k) : 0;
        };
        Collections.shuffle(rows, new java.util.Random(rows.size()));
        rows.sort(firstUnlike);
    }

    private void grow(int place, List<Integer> row) {
        if (place == 5) {
            rows.add(new ArrayList<>(row));
            return;
        }
        for (int c = 0; c < channels.size(); c++) {
            if (channels.get(c).from != place) continue;
            row.add(c);
            grow(channels.get(c).to, row);
            row.remove(row.size() - 1);
        }
    }

    private static int walk(char kind, int told, int every, int night) {
        int now = told;
        boolean at = true;
        for (int n = 1, since = 0; n <= night; n++) {
            since++;
            at = since == every;
            if (at) {
                since = 0;
                if (kind == 'w') now = now == 9 ? 0 : now + 1;
                if (kind == 's' && now > 0) now--;
                if (kind == 'p') now = 9 - now;
            }
        }
        return kind == 'r' && !at ? 0 : now;
    }

    private int depth(int c, int night, boolean stormy) {
        Channel channel = channels.get(c);
        if (channel.kind == 'j') return stormy ? 9 - channel.told : channel.told;
        return walk(channel.kind, channel.told, channel.every, night);
    }

    private int truth(int c, int night) {
        return depth(c, night, storms.contains(night));
    }

    private int shown(int c, int night) {
        return truth(c, night == 0 ? 0 : night - 1);
    }

    private interface Deep {
        int of(int c);
    }

    private List<List<Integer>> open(int draught, Deep deep) {
        List<List<Integer>> good = new ArrayList<>();
        for (List<Integer> row : rows) {
            boolean all = true;
            for (int c : row) all &= deep.of(c) >= draught;
            if (all) good.add(row);
        }
        return good;
    }

    private List<Integer> least(int draught, Deep deep) {
        List<List<Integer>> good = open(draught, deep);
        return good.isEmpty() ? null : good.get(0);
    }

    private static int step(List<Integer> row, int i) {
        return row == null || i >= row.size() ? NONE : row.get(i);
    }

    private int sail(List<Integer> row, int draught, Deep deep) {
        if (row == null) return NOT;
        for (int c : row) if (deep.of(c) < draught) return c;
        return NONE;
    }

    private List<Integer> rowByMap(int draught, int night) {
        return least(draught, c -> shown(c, night));
    }

    private List<Integer> rowByChange(int draught, int night) {
        int ahead = Math.max(0, night - 1);
        return least(draught, c -> {
            int more = shown(c, night) - shown(c, ahead);
            return Math.max(0, Math.min(9, shown(c, night) + more));
        });
    }

    private static boolean in(int v, int low, int high) {
        return v >= low && v <= high;
    }

    private static boolean ship(int draught, int night) {
        return in(draught, 1, 9) && in(night, 0, 99);
    }

    private boolean has(int c) {
        return in(c, 0, channels.size() - 1);
    }

    private int find(int number) {
        finding = number;
        return -10 - number;
    }

    int type(int b) {
        if (!in(b, 0, 255)) return BAD;
        if (text.length() == 95) return FULL;
        text += (char) b;
        understand();
        return text.length();
    }

    int wipe() {
        int had = text.length();
        text = "";
        understand();
        return had;
    }

    int undo() {
        if (channels.isEmpty()) return NOT;
        text = text.contains(";") ? text.substring(0, text.lastIndexOf(';')) : "";
        understand();
        return channels.size();
    }

    int fault() {
        for (int k = 1; k <= text.length(); k++) {
            Matcher matcher = DELTA.matcher(text.substring(0, k));
            if (!matcher.matches() && !matcher.hitEnd()) return k - 1;
        }
        return DELTA.matcher(text).matches() ? NONE : text.length();
    }

    int channel(int c, int what) {
        if (!has(c) || !in(what, 0, 4)) return BAD;
        Channel channel = channels.get(c);
        int[] told = {channel.from, channel.to, channel.told, "wrspj".indexOf(channel.kind), channel.every};
        return told[what];
    }

    int storm(int night) {
        if (!in(night, 0, 99)) return BAD;
        if (storms.size() == 8) return FULL;
        storms.add(night);
        return storms.size();
    }

    int calm() {
        if (storms.isEmpty()) return NOT;
        storms.remove(storms.size() - 1);
        return storms.size();
    }

    int odds(int v) {
        if (!in(v, 0, 16)) return BAD;
        int were = odds;
        odds = v;
        return were;
    }

    int deep(int c, int night) {
        return has(c) && in(night, 0, 99) ? truth(c, night) : BAD;
    }

    int map(int c, int night) {
        return has(c) && in(night, 0, 99) ? shown(c, night) : BAD;
    }

    int ways(int draught, int night, int i) {
        if (!ship(draught, night) || !in(i, -1, 4)) return BAD;
        if (i == NONE) return open(draught, c -> truth(c, night)).size();
        return step(least(draught, c -> truth(c, night)), i);
    }

    int draft(int night) {
        if (!in(night, 0, 99)) return BAD;
        int greatest = NONE;
        for (int draught = 1; draught <= 9; draught++) {
            if (least(draught, c -> truth(c, night)) != null) greatest = draught;
        }
        return greatest;
    }

    int waits(int draught, int night) {
        if (!ship(draught, night)) return BAD;
        for (int n = night; n < 100; n++) {
            int later = n;
            if (least(draught, c -> truth(c, later)) != null) return n;
        }
        return NONE;
    }

    int byMap(int draught, int night) {
        if (!ship(draught, night)) return BAD;
        return sail(rowByMap(draught, night), draught, c -> truth(c, night));
    }

    int byChange(int draught, int night) {
        if (!ship(draught, night)) return BAD;
        return sail(rowByChange(draught, night), draught, c -> truth(c, night));
    }

    int saved(int draught, int what) {
        if (!in(draught, 1, 9) || !in(what, 0, 1)) return BAD;
        int[] alone = new int[2];
        for (int night = 2; night < 100; night++) {
            int map = byMap(draught, night), change = byChange(draught, night);
            if (change == NONE && map != NONE) alone[0]++;
            if (map == NONE && change != NONE) alone[1]++;
        }
        return alone[what];
    }

    int sounded(int night, int channel, int deep) {
        if (!in(night, 0, 99) || !in(channel, 0, 15) || !in(deep, 0, 9)) return BAD;
        if (soundings.size() == 12) return FULL;
        soundings.add(new Sounding(night, channel, deep));
        return soundings.size();
    }

    int forget() {
        int had = soundings.size();
        soundings = new ArrayList<>();
        return had;
    }

    int read(int s) {
        if (!in(s, 0, 3)) return BAD;
        if (!sheets.containsKey(s)) return find(1);
        int[] items = sheets.get(s).items;
        int came = 0;
        while (3 * came + 3 <= items.length
            && sounded(items[3 * came], items[3 * came + 1], items[3 * came + 2]) > 0) came++;
        return came;
    }

    /** The laws that fit, as told: 10 times the kind and how many nights. */
    private List<Integer> fitting(int c) {
        List<Integer> laws = new ArrayList<>();
        for (int law = 1; law < 40; law++) {
            if (law % 10 == 0) continue;
            boolean fits = true;
            for (Sounding s : soundings) {
                if (s.channel == c) fits &= s.deep == byLaw(law, c, s.night);
            }
            if (fits) laws.add(law);
        }
        return laws;
    }

    private int byLaw(int law, int c, int night) {
        return walk("wrsp".charAt(law / 10), channels.get(c).told, law % 10, night);
    }

    int laws(int c, int i) {
        if (!has(c) || !in(i, -1, 35)) return BAD;
        List<Integer> laws = fitting(c);
        return i == NONE ? laws.size() : step(laws, i);
    }

    int next(int c, int night) {
        if (!has(c) || !in(night, 0, 99)) return BAD;
        TreeSet<Integer> depths = new TreeSet<>();
        for (int law : fitting(c)) depths.add(byLaw(law, c, night));
        int bits = 0;
        for (int depth : depths) bits += 1 << depth;
        return bits;
    }

    int tells(int c, int night) {
        if (!has(c) || !in(night, 0, 99)) return BAD;
        List<Integer> laws = fitting(c);
        int best = -1, least = 99;
        for (int k = 0; k < 20; k++) {
            if (night + k > 99) continue;
            int greatest = 0;
            for (int depth = 0; depth < 10; depth++) {
                int alike = 0;
                for (int law : laws) if (byLaw(law, c, night + k) == depth) alike++;
                greatest = Math.max(greatest, alike);
            }
            if (greatest < least) {
                least = greatest;
                best = night + k;
            }
        }
        return best;
    }

    int wreck(int draught, int c, int night) {
        if (!ship(draught, night) || !has(c)) return BAD;
        int bits = 0;
        for (int back = 0; back <= 30; back++) {
            if (night - back < 0) continue;
            if (sail(rowByMap(draught, night - back), draught, d -> truth(d, night)) == c) bits += 1 << back;
        }
        return bits;
    }

    private static long part(long above, long below, int what) {
        long a = above, b = below;
        while (b != 0) {
            long rest = a % b;
            a = b;
            b = rest;
        }
        return (what == 0 ? above : below) / a;
    }

    int through(int draught, int night, int what) {
        if (!ship(draught, night) || !in(what, 0, 1)) return BAD;
        int above = 0;
        for (int lot = 0; lot < 16; lot++) {
            boolean stormy = lot < odds;
            if (least(draught, c -> depth(c, night, stormy)) != null) above++;
        }
        return (int) part(above, 16, what);
    }

    int sure(int draught, int night, int i) {
        if (!ship(draught, night) || !in(i, 0, 4)) return BAD;
        for (List<Integer> row : rows) {
            boolean calm = sail(row, draught, c -> depth(c, night, false)) == NONE;
            boolean stormy = sail(row, draught, c -> depth(c, night, true)) == NONE;
            if (calm && stormy) return step(row, i);
        }
        return NONE;
    }

    int safest(int draught, int night, int i) {
        if (!ship(draught, night) || !in(i, -2, 4)) return BAD;
        List<Integer> best = null;
        long greatest = -1;
        for (List<Integer> row : rows) {
            long chance = 1;
            for (int k = 0; k < 5; k++) chance *= k < row.size() ? sixteenths(row.get(k), draught, night) : 16;
            if (chance > greatest) {
                greatest = chance;
                best = row;
            }
        }
        if (i < 0) return (int) part(Math.max(0, greatest), 1L << 20, i + 2);
        return step(best, i);
    }

    private int sixteenths(int c, int draught, int night) {
        int good = 0;
        for (int lot = 0; lot < 16; lot++) if (depth(c, night, lot < odds) >= draught) good++;
        return good;
    }

    int worth(int draught, int night) {
        if (!ship(draught, night)) return -102;
        List<Integer> first = rowByMap(draught, night);
        int worth = 0;
        for (int k = 0; k < 10; k++) {
            int later = night + k;
            if (later > 99) continue;
            if (byMap(draught, later) == NONE) worth++;
            if (sail(first, draught, c -> truth(c, later)) == NONE) worth--;
        }
        return worth;
    }

    int season(int seed, int draught, int night, int n) {
        if (!ship(draught, night) || !in(n, 0, 40)) return BAD;
        int passed = 0;
        int word = seed;
        for (int k = 0; k < n && night + k < 100; k++) {
            int later = night + k;
            word = (int) (1103515245L * word + 12345L);
            long lot = ((word & 0xffffffffL) >> 16) % 16;
            boolean stormy = lot < odds || storms.contains(later);
            if (sail(rowByMap(draught, later), draught, c -> depth(c, later, stormy)) == NONE) passed++;
        }
        return passed;
    }

    int sheet(int s, int form, int n) {
        if (!in(s, 0, 3) || !in(form, 0, 2) || n > 60) return BAD;
        if (n < 0) return find(5);
        sheets.put(s, new Sheet(form, new int[n]));
        return n;
    }

    int lose(int s) {
        if (!in(s, 0, 3)) return BAD;
        if (!sheets.containsKey(s)) return find(1);
        return sheets.remove(s).items.length;
    }

    private static int lowest(int form, int v) {
        int bits = 8 << form;
        long rest = Math.floorMod((long) v, 1L << bits);
        return (int) (rest >= 1L << bits - 1 ? rest - (1L << bits) : rest);
    }

    int lay(int s, int form, int i, int v) {
        int refused = refusal(s, form, i);
        if (refused != 0) return refused;
        sheets.get(s).items[i] = lowest(form, v);
        return 1;
    }

    int get(int s, int form, int i) {
        return refusal(s, form, i) != 0 ? LEAST : sheets.get(s).items[i];
    }

    private int refusal(int s, int form, int i) {
        if (!in(s, 0, 3) || !in(form, 0, 2)) return BAD;
        if (!sheets.containsKey(s)) return find(1);
        if (sheets.get(s).form != form) return find(3);
        return in(i, 0, sheets.get(s).items.length - 1) ? 0 : find(2);
    }

    int copy(int s, int i, int t, int j, int n) {
        if (!in(s, 0, 3) || !in(t, 0, 3)) return BAD;
        if (!sheets.containsKey(s) || !sheets.containsKey(t)) return find(1);
        Sheet from = sheets.get(s), to = sheets.get(t);
        if (from.form != to.form) return find(4);
        boolean below = i < 0 || j < 0 || n < 0;
        if (below || (long) i + n > from.items.length || (long) j + n > to.items.length) return find(2);
        int[] were = from.items.clone();
        for (int k = 0; k < n; k++) to.items[j + k] = were[i + k];
        return 1;
    }

    int write(int what, int night, int s) {
        if (!in(what, 0, 1) || !in(night, 0, 99) || !in(s, 0, 3)) return BAD;
        if (!sheets.containsKey(s)) return find(1);
        Sheet sheet = sheets.get(s);
        int many = Math.min(channels.size(), sheet.items.length);
        for (int c = 0; c < many; c++) {
            sheet.items[c] = lowest(sheet.form, what == 0 ? truth(c, night) : shown(c, night));
        }
        return many;
    }

    int count(int what) {
        int told = 0, jumpers = 0;
        for (Channel channel : channels) {
            told += walk('-', channel.told, 1, 0);
            if (channel.kind == 'j') jumpers++;
        }
        int[] counts = {channels.size(), text.length(), storms.size(), soundings.size(), odds, told,
            jumpers, rows.size(), finding};
        return in(what, 0, 8) ? counts[what] : BAD;
    }

    /** The digest as the document says it, over what an object answers. */
    static long digestOf(DayOldMaps maps) {
        List<Integer> told = new ArrayList<>();
        for (int what = 0; what <= 7; what++) told.add(maps.count(what));
        told.add(maps.fault());
        for (int c = 0; c < maps.count(0); c++) {
            for (int what = 0; what <= 4; what++) told.add(maps.channel(c, what));
            told.addAll(List.of(maps.deep(c, 7), maps.map(c, 7), maps.laws(c, -1), maps.laws(c, 0),
                maps.next(c, 9), maps.tells(c, 3)));
        }
        for (int n : new int[] {0, 1, 7, 50}) {
            told.add(maps.draft(n));
            for (int d : new int[] {2, 5}) {
                told.addAll(List.of(maps.ways(d, n, -1), maps.ways(d, n, 0), maps.waits(d, n),
                    maps.byMap(d, n), maps.byChange(d, n), maps.through(d, n, 0), maps.through(d, n, 1)));
                told.addAll(List.of(maps.sure(d, n, 0), maps.safest(d, n, -2), maps.safest(d, n, -1),
                    maps.safest(d, n, 0), maps.worth(d, n)));
            }
        }
        for (int d : new int[] {2, 5}) {
            told.addAll(List.of(maps.saved(d, 0), maps.saved(d, 1), maps.wreck(d, 1, 9),
                maps.season(7, d, 3, 20)));
        }
        long h = 17;
        for (int v : told) h = 31 * h + v;
        return h;
    }
}
