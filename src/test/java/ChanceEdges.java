import java.math.BigInteger;

/** Promises 25 to 29: the sentences on storms by chance that name an edge, one by one. */
final class ChanceEdges {
    private static final int NONE = DayOldMaps.NONE, BAD = DayOldMaps.BAD;

    /** Sixteenths in lowest terms: above and below of 0, 1, .. 16 of them. */
    private static final int[] ABOVE = {0, 1, 1, 3, 1, 5, 3, 7, 1, 9, 5, 11, 3, 13, 7, 15, 1};
    private static final int[] BELOW = {1, 16, 8, 16, 4, 16, 8, 16, 2, 16, 8, 16, 4, 16, 8, 16, 1};

    private final Checks checks;

    ChanceEdges(Checks checks) {
        this.checks = checks;
    }

    void run() {
        throughByAllOdds();
        throughOutside();
        sureSteps();
        sureOutside();
        safestByAllOdds();
        safestOfFive();
        safestWithoutChance();
        safestOutside();
        tenNights();
        worthAtTheEnd();
        worthOutside();
        lots();
        lengthsOfSeasons();
        seasonAtTheEnd();
        seasonMaps();
        seasonOutside();
    }

    private void throughByAllOdds() {
        checks.edge(25, "FRACTIONS are told in lowest terms, above and below (0 by 1)");
        DayOldMaps storm = Checks.with("af0j1"), calm = Checks.with("af9j1"), both = Checks.with("af9j1;af0j1");
        for (int odds = 0; odds <= 16; odds++) {
            storm.odds(odds);
            calm.odds(odds);
            both.odds(odds);
            checks.due("in a storm alone, above", ABOVE[odds], storm.through(9, 0, 0));
            checks.due("in a storm alone, below", BELOW[odds], storm.through(9, 0, 1));
            checks.due("in none alone, above", ABOVE[16 - odds], calm.through(9, 99, 0));
            checks.due("in none alone, below", BELOW[16 - odds], calm.through(9, 99, 1));
            checks.due("by one row or the other, above", 1, both.through(9, 0, 0));
            checks.due("by one row or the other, below", 1, both.through(9, 0, 1));
        }
        checks.edge(25, "(whatever STORMS are told)");
        storm.odds(4);
        storm.storm(7);
        checks.due("above", 1, storm.through(9, 7, 0));
        checks.due("below", 4, storm.through(9, 7, 1));
        checks.edge(25, "ODDS (0 to 16; 4 at first)");
        checks.due("above", 3, Checks.with("af9j1").through(9, 0, 0));
        checks.due("below", 4, Checks.with("af9j1").through(9, 0, 1));
    }

    private void throughOutside() {
        checks.edge(25, "(0 by 1)");
        for (String text : new String[] {"", "ab9w1", "af0s1", "af9w1;"}) {
            checks.due("above of " + text, 0, Checks.with(text).through(1, 0, 0));
            checks.due("below of " + text, 1, Checks.with(text).through(1, 0, 1));
        }
        checks.edge(25, "BAD");
        DayOldMaps maps = Checks.with("af9w1");
        for (int d : Checks.outside(1, 9)) checks.due("draught " + d, BAD, maps.through(d, 0, 0));
        for (int n : Checks.outside(0, 99)) checks.due("night " + n, BAD, maps.through(1, n, 0));
        for (int what : Checks.outside(0, 1)) checks.due("what " + what, BAD, maps.through(1, 0, what));
    }

    private void sureSteps() {
        checks.edge(26, "be there a STORM or none; NONE");
        for (int told = 0; told <= 9; told++) {
            DayOldMaps maps = Checks.with("af" + told + "j1");
            for (int odds = 0; odds <= 16; odds += 16) {
                maps.odds(odds);
                for (int draught = 1; draught <= 9; draught++) {
                    boolean surely = told >= draught && 9 - told >= draught;
                    checks.due(draught + " of " + told, surely ? 0 : NONE, maps.sure(draught, 0, 0));
                }
            }
        }
        checks.edge(26, "the i-th CHANNEL (0 to 4); NONE");
        DayOldMaps five = Checks.with("ef9s9;de9s9;cd9s9;bc9s9;ab9s9;ab9j1");
        for (int i = 0; i < 5; i++) checks.due("step " + i, 4 - i, five.sure(9, 8, i));
        for (int i = 0; i < 5; i++) checks.due("step " + i + " of none", NONE, five.sure(9, 9, i));
        for (int i = 0; i < 5; i++) checks.due("step " + i + " a night on", 4 - i, five.sure(8, 9, i));
        checks.edge(26, "the least ROW");
        DayOldMaps two = Checks.with("af8j1;af5j1;af4j1;af4w1");
        checks.due("of 1", 0, two.sure(1, 0, 0));
        checks.due("of 2", 1, two.sure(2, 0, 0));
        checks.due("of 5, though one of them has it either way", NONE, two.sure(5, 0, 0));
    }

    private void sureOutside() {
        checks.edge(26, "BAD");
        DayOldMaps maps = Checks.with("af9w1");
        for (int d : Checks.outside(1, 9)) checks.due("draught " + d, BAD, maps.sure(d, 0, 0));
        for (int n : Checks.outside(0, 99)) checks.due("night " + n, BAD, maps.sure(1, n, 0));
        for (int i : Checks.outside(0, 4)) checks.due("i " + i, BAD, maps.sure(1, 0, i));
        checks.due("no delta", NONE, new DayOldMaps().sure(1, 0, 0));
        checks.due("no delta, a wrong number", BAD, new DayOldMaps().sure(1, 0, 5));
    }

    private void safestByAllOdds() {
        checks.edge(27, "the chance: a FRACTION");
        DayOldMaps storm = Checks.with("af0j1"), calm = Checks.with("af9j1"), both = Checks.with("af9j1;af0j1");
        for (int odds = 0; odds <= 16; odds++) {
            storm.odds(odds);
            calm.odds(odds);
            both.odds(odds);
            int more = Math.max(odds, 16 - odds);
            checks.due("in a storm alone, above", ABOVE[odds], storm.safest(9, 0, -2));
            checks.due("in a storm alone, below", BELOW[odds], storm.safest(9, 0, NONE));
            checks.due("in none alone, above", ABOVE[16 - odds], calm.safest(9, 99, -2));
            checks.due("in none alone, below", BELOW[16 - odds], calm.safest(9, 99, NONE));
            checks.due("the better one, above", ABOVE[more], both.safest(9, 0, -2));
            checks.due("the better one, below", BELOW[more], both.safest(9, 0, NONE));
            checks.due("at 8 both are alike: the least", odds <= 8 ? 0 : 1, both.safest(9, 0, 0));
        }
        both.storm(0);
        both.odds(3);
        checks.edge(27, "(whatever STORMS are told)");
        checks.due("above", 13, both.safest(9, 0, -2));
        checks.edge(27, "they go through CHANNELS that are as deep, or deeper");
        DayOldMaps four = Checks.with("af4j1");
        four.odds(3);
        int[] above = {1, 1, 1, 1, 3, 0, 0, 0, 0};
        int[] below = {1, 1, 1, 1, 16, 1, 1, 1, 1};
        for (int draught = 1; draught <= 9; draught++) {
            checks.due("of " + draught + ", above", above[draught - 1], four.safest(draught, 0, -2));
            checks.due("of " + draught + ", below", below[draught - 1], four.safest(draught, 0, NONE));
        }
    }

    private void safestOfFive() {
        checks.edge(27, "each CHANNEL that jumps having 9 less by ODDS, by itself");
        DayOldMaps maps = Checks.with("ab9j1;bc9j1;cd9j1;de9j1;ef9j1");
        int[] below = {1, 1048576, 32768, 1048576, 1024, 1048576, 32768, 1048576, 32};
        for (int odds = 0; odds <= 8; odds++) {
            maps.odds(odds);
            long above = 1;
            for (int k = 0; k < 5; k++) above *= ABOVE[16 - odds];
            checks.due("odds " + odds + " above", above, maps.safest(9, 0, -2));
            checks.due("odds " + odds + " below", below[odds], maps.safest(9, 0, NONE));
        }
        maps.odds(15);
        checks.due("the least chance of all, above", 1, maps.safest(9, 0, -2));
        checks.due("the least chance of all, below", 1048576, maps.safest(9, 0, NONE));
        for (int i = 0; i < 5; i++) checks.due("step " + i, i, maps.safest(9, 0, i));
    }

    private void safestWithoutChance() {
        checks.edge(27, "the ROW (of any CHANNELS) .. of like ones the least");
        DayOldMaps maps = Checks.with("ab9s1;bf0s1;bf1s1;af0s1");
        checks.due("chance 0, above", 0, maps.safest(5, 0, -2));
        checks.due("chance 0, below", 1, maps.safest(5, 0, NONE));
        int[] least = {0, 1, NONE, NONE, NONE};
        for (int i = 0; i < 5; i++) checks.due("step " + i, least[i], maps.safest(5, 0, i));
        checks.due("of 1 there is a better one", 2, maps.safest(1, 0, 1));
        checks.edge(27, "NONE: there is no ROW (0 by 1)");
        for (String text : new String[] {"", "ab9w1", "bf9w1;ac9w1", "af9w1;"}) {
            DayOldMaps none = Checks.with(text);
            checks.due("above of " + text, 0, none.safest(1, 0, -2));
            checks.due("below of " + text, 1, none.safest(1, 0, NONE));
            for (int i = 0; i < 5; i++) checks.due("step " + i + " of " + text, NONE, none.safest(1, 0, i));
        }
    }

    private void safestOutside() {
        checks.edge(27, "BAD");
        DayOldMaps maps = Checks.with("af9w1");
        for (int d : Checks.outside(1, 9)) checks.due("draught " + d, BAD, maps.safest(d, 0, -2));
        for (int n : Checks.outside(0, 99)) checks.due("night " + n, BAD, maps.safest(1, n, -2));
        for (int i : Checks.outside(-2, 4)) checks.due("i " + i, BAD, maps.safest(1, 0, i));
    }

    private void tenNights() {
        checks.edge(28, "of ten NIGHTS from one on");
        // By 0, 1 to night 4, aground on 5, by 2 from 6 on: on 5 to 14 nine nights, by the row of 5 none.
        DayOldMaps maps = Checks.with("ab9s1;bf9j1;af5j1");
        int[] due = {4, 5, 6, 7, 8, 9, 0};
        for (int night = 0; night < due.length; night++) {
            checks.due("from " + night + " on", due[night], maps.worth(5, night));
        }
        // A storm on the tenth night is aground by both, on the night behind it by new maps alone.
        DayOldMaps jumps = Checks.with("af9j1;af0j1");
        jumps.storm(20);
        int[] from10 = {0, 0, -1};
        for (int k = 0; k < 3; k++) checks.due("from " + (10 + k), from10[k], jumps.worth(9, 10 + k));
    }

    private void worthAtTheEnd() {
        checks.edge(28, "(to 99 at most)");
        // Behind a storm the map shows row 1 alone, which is closed then: 9 later nights by new maps.
        DayOldMaps maps = Checks.with("af9j1;af0j1");
        for (int night = 85; night <= 99; night++) {
            maps.storm(night - 1);
            checks.due("from " + night + " on", Math.min(9, 99 - night), maps.worth(9, night));
            maps.calm();
            // With no storm ahead of it the old row is as good on each of them, 99 among them.
            checks.due("nothing new from " + night + " on", 0, maps.worth(9, night));
        }
        checks.edge(28, "(in none, if it shows none)");
        DayOldMaps late = Checks.with("af0w9");
        checks.due("the map of 9 shows none, maps of 10 to 18 do", 9, late.worth(1, 9));
        checks.due("of 0 as well, none of the ten", 0, late.worth(1, 0));
        checks.due("of 1 as well, that of the last alone", 1, late.worth(1, 1));
        for (String text : new String[] {"", "ab9w1", "af0s1", "af9w1;"}) {
            checks.due("no row in " + text, 0, Checks.with(text).worth(1, 0));
        }
    }

    private void worthOutside() {
        checks.edge(28, "WORTH, as any number. BAD: -102");
        DayOldMaps maps = Checks.with("af9r2;af0j1");
        for (int d : Checks.outside(1, 9)) checks.due("draught " + d, -102, maps.worth(d, 0));
        for (int n : Checks.outside(0, 99)) checks.due("night " + n, -102, maps.worth(1, n));
        checks.due("-2 and less are worths", -5, Checks.with("af9r2").worth(9, 1));
    }

    private static int lotOf(BigInteger seed) {
        return seed.shiftRight(16).mod(BigInteger.valueOf(16)).intValue();
    }

    private static BigInteger following(BigInteger seed) {
        BigInteger next = seed.multiply(BigInteger.valueOf(1103515245)).add(BigInteger.valueOf(12345));
        return next.mod(BigInteger.ONE.shiftLeft(32));
    }

    private void lots() {
        checks.edge(29, "as ints that wrap; its upper 16 bits as a number from 0 on, modulo m");
        int[] seeds = {0, 1, -1, 7, 65535, 65536, -65536, 2147483647, -2147483648, 123456789, -987654321};
        for (int start : seeds) {
            for (int odds = 0; odds <= 16; odds++) {
                DayOldMaps calm = Checks.with("af9j1");
                calm.odds(odds);
                BigInteger seed = BigInteger.valueOf(start);
                int through = 0;
                for (int n = 1; n <= 40; n++) {
                    seed = following(seed);
                    if (lotOf(seed) >= odds) through++;
                    checks.due("seed " + start + ", odds " + odds + ", " + n, through, calm.season(start, 9, 0, n));
                }
            }
        }
    }

    private void lengthsOfSeasons() {
        checks.edge(29, "so many NIGHTS (0 to 40)");
        DayOldMaps maps = Checks.with("af9w9");
        for (int n : Checks.outside(0, 40)) checks.due("n " + n, BAD, maps.season(0, 1, 0, n));
        DayOldMaps open = Checks.with("af9s9");
        for (int n = 0; n <= 40; n++) checks.due("n " + n, n, open.season(5, 1, 0, n));
    }

    private void seasonAtTheEnd() {
        checks.edge(29, "(to 99 at most)");
        DayOldMaps maps = Checks.with("af1j1");
        maps.odds(0);
        for (int night = 55; night <= 99; night++) {
            int nights = Math.min(40, 100 - night);
            checks.due("from " + night + " on", nights, maps.season(1, 1, night, 40));
        }
        checks.due("night 99 alone", 1, maps.season(1, 1, 99, 1));
        checks.due("none from 99 on", 0, maps.season(1, 1, 99, 0));
    }

    private void seasonMaps() {
        checks.edge(29, "a STORM (else as told) .. that NIGHT's MAP (as told)");
        DayOldMaps maps = Checks.with("af9j1");
        maps.odds(0);
        maps.storm(10);
        checks.due("a told storm: aground on 10, no row on 11", 18, maps.season(3, 9, 0, 20));
        checks.due("night 10 alone", 0, maps.season(3, 9, 10, 1));
        checks.due("night 11 alone", 0, maps.season(3, 9, 11, 1));
        checks.due("night 12 alone", 1, maps.season(3, 9, 12, 1));
        maps.odds(16);
        checks.due("always a storm", 0, maps.season(3, 9, 0, 40));
        DayOldMaps low = Checks.with("af0j1");
        low.odds(16);
        checks.due("storms by lot are on no map", 0, low.season(3, 9, 0, 40));
        low.storm(10);
        checks.due("the told one is on the map of 11", 1, low.season(3, 9, 0, 40));
        low.odds(0);
        checks.due("on 11 there is none", 0, low.season(3, 9, 0, 40));
        low.storm(11);
        checks.due("two told ones in a row", 1, low.season(3, 9, 0, 40));
    }

    private void seasonOutside() {
        checks.edge(29, "BAD");
        DayOldMaps maps = Checks.with("af9s9");
        for (int d : Checks.outside(1, 9)) checks.due("draught " + d, BAD, maps.season(0, d, 0, 1));
        for (int n : Checks.outside(0, 99)) checks.due("night " + n, BAD, maps.season(0, 1, n, 1));
        for (String text : new String[] {"", "ab9w1", "af0s1", "af9w1;"}) {
            checks.due("no row in " + text, 0, Checks.with(text).season(0, 1, 0, 40));
        }
    }
}
