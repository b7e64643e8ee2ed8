/** Promises 25 to 29: storms by chance, and what maps are worth. */
final class ChanceTests {
    private static final int NONE = DayOldMaps.NONE, BAD = DayOldMaps.BAD;

    private final Checks checks;

    ChanceTests(Checks checks) {
        this.checks = checks;
    }

    void run() {
        through();
        sure();
        safest();
        safestOfLikeOnes();
        worth();
        season();
    }

    private void through(DayOldMaps maps, int draught, int above, int below) {
        checks.due("through " + draught + " above", above, maps.through(draught, 0, 0));
        checks.due("through " + draught + " below", below, maps.through(draught, 0, 1));
    }

    private void through() {
        checks.begin("promise 25");
        DayOldMaps maps = Checks.with("ab6j1;bf6j1;af2j1");
        // Without a storm 6 gets through by the first two, in a storm 7 by the third.
        through(maps, 7, 1, 4);
        through(maps, 6, 1, 1);
        through(maps, 8, 0, 1);
        maps.odds(6);
        through(maps, 7, 3, 8);
        maps.storm(0);
        through(maps, 7, 3, 8);
        maps.odds(1);
        through(maps, 7, 1, 16);
        maps.odds(15);
        through(maps, 7, 15, 16);
        maps.odds(0);
        through(maps, 7, 0, 1);
        through(maps, 6, 1, 1);
        maps.odds(16);
        through(maps, 7, 1, 1);
        maps.odds(5);
        through(Checks.with("af9j1"), 9, 3, 4);
        through(maps, 7, 5, 16);
        through(new DayOldMaps(), 1, 0, 1);
        // The first is 5 deep from night 3 on; till then all hangs on the second one.
        DayOldMaps calm = Checks.with("af2w1;af9j1"), stormy = Checks.with("af2w1;af0j1");
        for (int night = 0; night < 6; night++) {
            checks.due("if calm, above, " + night, night < 3 ? 3 : 1, calm.through(5, night, 0));
            checks.due("if calm, below, " + night, night < 3 ? 4 : 1, calm.through(5, night, 1));
            checks.due("if stormy, above, " + night, 1, stormy.through(5, night, 0));
            checks.due("if stormy, below, " + night, night < 3 ? 4 : 1, stormy.through(5, night, 1));
        }
        checks.due("what 2", BAD, maps.through(1, 0, 2));
        checks.due("what -1", BAD, maps.through(1, 0, -1));
    }

    private void sure() {
        checks.begin("promise 26");
        DayOldMaps maps = Checks.with("ab5j1;bf9w1;ab8s1;ab4j1");
        // Channel 0 may have 4, 2 has 8 in night 0, 3 may have 5 but 4 is sure.
        checks.due("of 4: 0", 0, maps.sure(4, 0, 0));
        checks.due("of 4: 1", 1, maps.sure(4, 0, 1));
        checks.due("of 4: no more", NONE, maps.sure(4, 0, 2));
        checks.due("of 5: 2", 2, maps.sure(5, 0, 0));
        checks.due("of 9: none", NONE, maps.sure(9, 0, 0));
        checks.due("on night 1 channel 1 is 0", NONE, maps.sure(1, 1, 0));
        checks.due("not in a storm alone", NONE, Checks.with("af4j1").sure(5, 0, 0));
        checks.due("not without a storm alone", NONE, Checks.with("af5j1").sure(5, 0, 0));
        DayOldMaps shifts = Checks.with("af2w1;af9s1");
        int[] byNight = {1, 1, 1, 0, 0, 0, 0, 0, NONE, NONE};
        for (int night = 0; night < byNight.length; night++) {
            checks.due("sure in night " + night, byNight[night], shifts.sure(5, night, 0));
        }
        maps.storm(0);
        checks.due("whatever storms are told", 2, maps.sure(5, 0, 0));
        checks.due("i -1", BAD, maps.sure(1, 0, -1));
        checks.due("i 5", BAD, maps.sure(1, 0, 5));
        checks.due("i 4", NONE, maps.sure(1, 0, 4));
        checks.due("no delta", NONE, new DayOldMaps().sure(1, 0, 0));
    }

    private void safest(DayOldMaps maps, int draught, int... due) {
        for (int i = -2; i + 2 < due.length; i++) {
            checks.due("safest(" + draught + ", 0, " + i + ")", due[i + 2], maps.safest(draught, 0, i));
        }
    }

    private void safest() {
        checks.begin("promise 27");
        DayOldMaps maps = Checks.with("ab9j1;bc9j1;cd9j1;de9j1;ef9j1;af1j1");
        safest(maps, 9, 243, 1024, 0, 1, 2, 3, 4);
        safest(maps, 8, 1, 4, 5, NONE, NONE, NONE, NONE);
        maps.odds(1);
        safest(maps, 9, 759375, 1048576, 0, 1, 2, 3, 4);
        safest(maps, 8, 759375, 1048576, 0);
        // The sixth has 1 or 8: a ship of 1 is certain of it.
        safest(maps, 1, 1, 1, 5, NONE);
        DayOldMaps hardly = Checks.with("ac1s1;cf9s1;ab0j1;bc0j1;cd0j1;de0j1;ef0j1;af8s1");
        hardly.odds(1);
        safest(hardly, 9, 1, 256, 2, 3, 1, NONE);
        DayOldMaps least = Checks.with("ac1s1;ef0j1;ab0j1;bc0j1;cd0j1;de0j1;af8s1");
        least.odds(1);
        safest(least, 9, 1, 1048576, 2, 3, 4, 5, 1);
        maps.odds(16);
        safest(maps, 8, 1, 1, 5);
        // Of no hope at all any row is as good, and the least of any goes by closed channels.
        safest(maps, 9, 0, 1, 0, 1, 2, 3, 4);
        maps.storm(0);
        safest(maps, 8, 1, 1, 5);
        safest(new DayOldMaps(), 1, 0, 1, NONE, NONE, NONE, NONE, NONE);
        safest(Checks.with("ab9w1;cf9w1"), 1, 0, 1, NONE);
        DayOldMaps shifts = Checks.with("af9j1;af2w1");
        for (int night = 0; night < 6; night++) {
            checks.due("above in night " + night, night < 3 ? 3 : 1, shifts.safest(5, night, -2));
            checks.due("below in night " + night, night < 3 ? 4 : 1, shifts.safest(5, night, NONE));
            checks.due("by in night " + night, night < 3 ? 0 : 1, shifts.safest(5, night, 0));
        }
        checks.due("i -3", BAD, maps.safest(1, 0, -3));
        checks.due("i 5", BAD, maps.safest(1, 0, 5));
    }

    private void safestOfLikeOnes() {
        checks.begin("promise 27, like ones");
        // 1, 2 and 0, 3 are both of 3 by 4: the less first channel wins.
        safest(Checks.with("ab9s1;ac9j1;cf9s1;bf9j1;bf9j1"), 9, 3, 4, 0, 3, NONE);
        // Both have no hope: 0, 1 is the least, though behind 0 channel 2 is better than 1.
        safest(Checks.with("ab1s1;bf1s1;bf9s1"), 5, 0, 1, 0, 1, NONE);
        // A longer row of certain channels is as good as a short one.
        safest(Checks.with("af9j1;ef9s1;de9s1;ad9s1"), 9, 1, 1, 3, 2, 1, NONE);
    }

    private void worth() {
        checks.begin("promise 28");
        DayOldMaps walks = Checks.with("af0w1");
        checks.due("a map less than none", -1, walks.worth(1, 5));
        checks.due("the first map shows no row", 4, walks.worth(5, 0));
        checks.due("night 99 alone", 0, walks.worth(9, 99));
        DayOldMaps two = Checks.with("ab9r2;bf9j1;ac9p1;cf9j1");
        // In even nights both are 9 deep, in odd ones none is: each map is of the wrong night.
        checks.due("from night 1", 0 - 5, two.worth(9, 1));
        // The map of night 0 is true, later ones lead aground or show none.
        checks.due("from night 0", 1 - 5, two.worth(9, 0));
        DayOldMaps silts = Checks.with("ab9s1;bf9j1;af5j1");
        // Through in 0 to 4, aground in 5, and from 6 on by the other row.
        checks.due("fresh maps find the other row", 9 - 5, silts.worth(5, 0));
        checks.due("ends with night 99", 0, silts.worth(5, 95));
        checks.due("no delta", 0, new DayOldMaps().worth(1, 0));
    }

    private void season() {
        checks.begin("promise 29");
        DayOldMaps maps = Checks.with("af9j1");
        // The first lots of seed 0.
        int[] lots = {0, 12, 4, 5, 10, 15, 13, 13, 10, 10, 5, 12, 11, 14, 15, 3, 0, 9, 12, 13};
        for (int odds = 0; odds <= 16; odds++) {
            maps.odds(odds);
            int calm = 0;
            for (int k = 0; k < lots.length; k++) {
                if (lots[k] >= odds) calm++;
                checks.due("odds " + odds + ", season of " + (k + 1), calm, maps.season(0, 9, 10, k + 1));
            }
        }
        maps.odds(4);
        checks.due("of none", 0, maps.season(0, 9, 0, 0));
        checks.due("not beyond night 99", maps.season(0, 9, 0, 5), maps.season(0, 9, 95, 40));
        maps.odds(0);
        checks.due("no storm", 40, maps.season(5, 9, 0, 40));
        maps.storm(20);
        // In 20 it runs aground, and the map of 21 shows the storm that is told.
        checks.due("a storm that is told", 38, maps.season(5, 9, 0, 40));
        maps.odds(16);
        checks.due("storms always", 0, maps.season(5, 9, 0, 40));
        // Maps are as told: only the map of 21 shows 0, and a ship of 1 goes by no other.
        DayOldMaps low = Checks.with("af0j1");
        low.odds(16);
        low.storm(20);
        checks.due("maps as told", 1, low.season(5, 1, 0, 40));
        // A ship of 5 gets through where it is 5 to 9 deep and the map shows 5 to 8.
        DayOldMaps walks = Checks.with("af0w1");
        int[] passed = {0, 0, 0, 0, 0, 0, 0, 1, 2, 3, 4, 4, 4};
        for (int n = 0; n < passed.length; n++) {
            checks.due("a walk of " + n, passed[n], walks.season(1, 5, 0, n));
        }
        checks.due("a walk from night 8 on", 2, walks.season(1, 5, 8, 8));
        checks.due("n -1", BAD, maps.season(0, 1, 0, -1));
        checks.due("n 41", BAD, maps.season(0, 1, 0, 41));
        checks.due("no delta", 0, new DayOldMaps().season(0, 1, 0, 40));
    }
}
