/** Promises 1 to 11: the sentences on the delta that name an edge, one by one. */
final class DeltaEdges {
    private static final int NONE = DayOldMaps.NONE, BAD = DayOldMaps.BAD;
    private static final int NOT = DayOldMaps.NOT, FULL = DayOldMaps.FULL;
    private static final int LOST = -11;

    private static final String SIXTEEN = Checks.times(16, "af1w1");

    private final Checks checks;

    DeltaEdges(Checks checks) {
        this.checks = checks;
    }

    void run() {
        newObjects();
        bytes();
        wipes();
        undoes();
        endsOfText();
        eachByteOfAChannel();
        secondPlaces();
        firstOfMoreFaults();
        seventeenth();
        noChannelsWithAFault();
        factsOfChannels();
        storms();
        calms();
        odds();
        walking();
        returning();
        silting();
        pairs();
        jumping();
        depthsOutside();
        maps();
    }

    private void newObjects() {
        checks.edge(1, "No CHANNELS; all SHEETS are LOST");
        DayOldMaps used = Checks.with("af1w1");
        used.storm(1);
        used.sounded(1, 1, 1);
        used.odds(9);
        for (int s = 0; s < 4; s++) used.sheet(s, 2, 60);
        DayOldMaps fresh = new DayOldMaps();
        int[] counts = {0, 0, 0, 0, 4, 0, 0, 0, 0};
        for (int what = 0; what < counts.length; what++) {
            checks.due("count(" + what + ")", counts[what], fresh.count(what));
        }
        checks.due("channel(0, 0)", BAD, fresh.channel(0, 0));
        for (int s = 0; s < 4; s++) {
            checks.due("lose(" + s + ")", LOST, fresh.lose(s));
            checks.due("read(" + s + ")", LOST, fresh.read(s));
            checks.due("write(" + s + ")", LOST, fresh.write(0, 0, s));
            for (int form = 0; form < 3; form++) {
                checks.due("lay(" + s + ", " + form + ")", LOST, fresh.lay(s, form, 0, 0));
            }
        }
    }

    private void bytes() {
        checks.edge(2, "A byte (0 to 255)");
        DayOldMaps maps = new DayOldMaps();
        for (int b : Checks.outside(0, 255)) checks.due("type(" + b + ")", BAD, maps.type(b));
        checks.due("none has come", 0, maps.count(1));
        checks.due("type(0)", 1, maps.type(0));
        checks.due("type(255)", 2, maps.type(255));
        checks.edge(2, "up to 95 bytes");
        for (int k = 3; k <= 95; k++) checks.due("byte " + k, k, maps.type(k));
        checks.due("byte 96", FULL, maps.type('a'));
        checks.due("it stays 95", 95, maps.count(1));
        checks.edge(2, "BAD; FULL");
        for (int b : Checks.outside(0, 255)) checks.due("type(" + b + ")", BAD, maps.type(b));
        checks.due("wipe()", 95, maps.wipe());
        checks.due("there is room again", 1, maps.type('a'));
    }

    private void wipes() {
        checks.edge(3, "It is empty: how many bytes it had");
        DayOldMaps maps = new DayOldMaps();
        checks.due("of none", 0, maps.wipe());
        maps.type('?');
        checks.due("of one that can't go on", 1, maps.wipe());
        checks.due("fault()", NONE, maps.fault());
        Checks.type(maps, SIXTEEN);
        checks.due("of as many as can be", 95, maps.wipe());
        checks.due("bytes", 0, maps.count(1));
        checks.due("channels", 0, maps.count(0));
        checks.due("rows", 0, maps.count(7));
        checks.due("again", 0, maps.wipe());
        Checks.type(maps, "bc2s3");
        checks.due("a new one begins", 1, maps.channel(0, 0));
        checks.due("one channel", 1, maps.count(0));
    }

    private void undoes() {
        checks.edge(4, "NOT: there are none");
        checks.due("no text", NOT, new DayOldMaps().undo());
        String[] faulty = {"a", "ab5w1;", "ab5w1;bc", "ab5w1?", "ab5w1;bc5w0", "?"};
        for (String text : faulty) {
            DayOldMaps maps = Checks.with(text);
            checks.due("undo() of " + text, NOT, maps.undo());
            checks.due("bytes of " + text, text.length(), maps.count(1));
        }
        checks.edge(4, "with the ; ahead of it: how many are left");
        DayOldMaps maps = Checks.with(SIXTEEN);
        for (int left = 15; left >= 0; left--) {
            checks.due("undo()", left, maps.undo());
            checks.due("bytes", left == 0 ? 0 : left * 6 - 1, maps.count(1));
            checks.due("fault()", NONE, maps.fault());
            checks.due("the channel behind them", BAD, maps.channel(left, 0));
        }
        checks.due("undo() of none", NOT, maps.undo());
        Checks.type(maps, SIXTEEN);
        maps.undo();
        Checks.type(maps, ";be7p8");
        checks.due("the place is free for another", 16, maps.count(0));
        checks.due("another", 7, maps.channel(15, 2));
    }

    private void endsOfText() {
        checks.edge(5, "an empty text is well");
        checks.due("fault()", NONE, new DayOldMaps().fault());
        checks.edge(5, "of one that is not ended, as behind a ;, its end");
        DayOldMaps maps = new DayOldMaps();
        for (int k = 1; k <= 95; k++) {
            maps.type(SIXTEEN.charAt(k - 1));
            checks.due(k + " bytes", k % 6 == 5 ? NONE : k, maps.fault());
            checks.due("channels of " + k + " bytes", k % 6 == 5 ? (k + 1) / 6 : 0, maps.count(0));
        }
    }

    private void eachByteOfAChannel() {
        String[] ahead = {"", "a", "ab", "ab5", "ab5w", "ab5w1"};
        String[] well = {"abcdef", "bcdef", "0123456789", "wrspj", "123456789", ";"};
        String[] words = {
            "two PLACES (letters a to f, ..)", "the second one behind the first by the alphabet",
            "a figure how DEEP it is in NIGHT 0 (0 to 9)", "how it SHIFTS: a letter",
            "of a figure 0 behind a letter", "with ; between them"};
        // The first channel, one in the midst and the last one, which has no room for a ; behind it.
        for (int channel : new int[] {0, 1, 7, 15}) {
            String before = channel == 0 ? "" : Checks.times(channel, "af1w1") + ";";
            for (int at = 0; at < (channel == 15 ? 5 : 6); at++) {
                checks.edge(5, words[at]);
                for (int b = 0; b < 256; b++) {
                    DayOldMaps maps = Checks.with(before + ahead[at]);
                    maps.type(b);
                    int place = before.length() + at;
                    boolean goesOn = well[at].indexOf(b) >= 0;
                    int due = !goesOn ? place : at == 4 ? NONE : place + 1;
                    checks.due("byte " + b + " at " + place, due, maps.fault());
                }
            }
        }
    }

    private void secondPlaces() {
        checks.edge(5, "here also of a second PLACE that is not behind the first");
        for (char from = 'a'; from <= 'f'; from++) {
            for (char to = 'a'; to <= 'f'; to++) {
                String text = "" + from + to + "5w1";
                checks.due("fault() of " + text, to > from ? NONE : 1, Checks.with(text).fault());
                checks.due("behind another", to > from ? NONE : 7, Checks.with("af1w1;" + text).fault());
            }
        }
    }

    private void firstOfMoreFaults() {
        checks.edge(5, "the place of the first byte with which it cannot go on");
        DayOldMaps maps = Checks.with("ab5q0,");
        for (int k = 6; k < 95; k++) {
            checks.due("of " + k + " bytes", 3, maps.fault());
            maps.type("ab5w1;".charAt(k % 6));
        }
        checks.due("of 95 bytes", 3, maps.fault());
        maps.type(';');
        checks.due("a refused byte changes nothing", 3, maps.fault());
    }

    private void seventeenth() {
        checks.edge(5, "of the first byte of a seventeenth");
        DayOldMaps maps = Checks.with(SIXTEEN);
        checks.due("sixteen", 16, maps.count(0));
        for (int b = 0; b < 256; b++) checks.due("no room for byte " + b, FULL, maps.type(b));
        checks.due("they stay well", NONE, maps.fault());
        checks.due("they stay", 16, maps.count(0));
    }

    private void noChannelsWithAFault() {
        checks.edge(6, "With a FAULT there are no CHANNELS");
        for (String text : new String[] {"ab9j1;bf9j1;", "ab9j1;bf9j1;x", "ab9j1;bf9", "xab9j1;bf9j1"}) {
            DayOldMaps maps = Checks.with(text);
            checks.due("channel", BAD, maps.channel(0, 0));
            checks.due("deep", BAD, maps.deep(0, 0));
            checks.due("map", BAD, maps.map(0, 0));
            checks.due("laws", BAD, maps.laws(0, NONE));
            checks.due("next", BAD, maps.next(0, 0));
            checks.due("tells", BAD, maps.tells(0, 0));
            checks.due("wreck", BAD, maps.wreck(1, 0, 0));
            checks.due("ways", 0, maps.ways(1, 0, NONE));
            checks.due("draft", NONE, maps.draft(0));
            checks.due("waits", NONE, maps.waits(1, 0));
            checks.due("byMap", NOT, maps.byMap(1, 0));
            checks.due("byChange", NOT, maps.byChange(1, 0));
            checks.due("through", 0, maps.through(1, 0, 0));
            checks.due("sure", NONE, maps.sure(1, 0, 0));
            checks.due("safest", NONE, maps.safest(1, 0, 0));
            for (int what : new int[] {0, 5, 6, 7}) checks.due("count(" + what + ")", 0, maps.count(what));
        }
    }

    private void factsOfChannels() {
        checks.edge(6, "BAD");
        DayOldMaps maps = Checks.with(SIXTEEN);
        for (int c : Checks.outside(0, 15)) checks.due("channel " + c, BAD, maps.channel(c, 0));
        for (int what : Checks.outside(0, 4)) {
            for (int c : new int[] {0, 1, 15}) checks.due("what " + what, BAD, maps.channel(c, what));
        }
        checks.edge(6, "16 at most (0 on)");
        int[] facts = {0, 5, 1, 0, 1};
        for (int what = 0; what < 5; what++) {
            checks.due("channel(0, " + what + ")", facts[what], maps.channel(0, what));
            checks.due("channel(15, " + what + ")", facts[what], maps.channel(15, what));
        }
        maps.undo();
        checks.due("channel(15, 0) of fifteen", BAD, maps.channel(15, 0));
        checks.due("channel(0, 0) of none", BAD, new DayOldMaps().channel(0, 0));
    }

    private void storms() {
        checks.edge(7, "NIGHTS are 0 to 99");
        DayOldMaps maps = Checks.with("af2j1");
        for (int night : Checks.outside(0, 99)) checks.due("storm(" + night + ")", BAD, maps.storm(night));
        checks.due("none so far", 0, maps.count(2));
        checks.due("storm(0)", 1, maps.storm(0));
        checks.due("storm(99)", 2, maps.storm(99));
        checks.edge(7, "8 at most");
        for (int k = 3; k <= 8; k++) checks.due("storm " + k, k, maps.storm(50));
        checks.due("a ninth", FULL, maps.storm(70));
        checks.due("they stay eight", 8, maps.count(2));
        checks.due("there was no ninth", 2, maps.deep(0, 70));
        checks.edge(7, "BAD; FULL");
        for (int night : Checks.outside(0, 99)) checks.due("storm(" + night + ")", BAD, maps.storm(night));
        maps.calm();
        checks.due("there is room again", 8, maps.storm(70));
        checks.due("it storms", 7, maps.deep(0, 70));
    }

    private void calms() {
        checks.edge(8, "NOT: there is none");
        DayOldMaps maps = Checks.with("af2j1");
        checks.due("calm()", NOT, maps.calm());
        for (int k = 0; k < 8; k++) maps.storm(k);
        checks.edge(8, "The last STORM is undone: how many are left");
        for (int left = 7; left >= 0; left--) {
            checks.due("calm()", left, maps.calm());
            checks.due("the last one", 2, maps.deep(0, left));
            if (left > 0) checks.due("the one ahead of it", 7, maps.deep(0, left - 1));
        }
        checks.edge(8, "NOT: there is none");
        checks.due("calm() again", NOT, maps.calm());
        checks.due("storms", 0, maps.count(2));
        checks.due("one may come", 1, maps.storm(3));
    }

    private void odds() {
        checks.edge(9, "ODDS (0 to 16; 4 at first)");
        DayOldMaps maps = new DayOldMaps();
        for (int v : Checks.outside(0, 16)) checks.due("odds(" + v + ")", BAD, maps.odds(v));
        checks.due("refused, they change nothing", 4, maps.count(4));
        int were = 4;
        for (int v : new int[] {16, 0, 1, 15, 16}) {
            checks.due("odds(" + v + ")", were, maps.odds(v));
            were = v;
        }
    }

    private void walking() {
        checks.edge(10, "from 9 on 0 again");
        checks.due("9, night 0", 9, Checks.with("af9w9").deep(0, 0));
        checks.due("9, the night ahead of the walk", 9, Checks.with("af9w9").deep(0, 8));
        checks.due("9, the night of the walk", 0, Checks.with("af9w9").deep(0, 9));
        for (int every = 1; every <= 9; every++) {
            for (int told = 0; told <= 9; told++) {
                DayOldMaps maps = Checks.with("af" + told + "w" + every);
                int deep = told;
                for (int night = 0; night < 100; night++) {
                    if (night > 0 && night % every == 0) deep = deep == 9 ? 0 : deep + 1;
                    checks.due(told + "w" + every + ", night " + night, deep, maps.deep(0, night));
                }
            }
        }
    }

    private void returning() {
        checks.edge(10, "in each so many-th NIGHT (0, so many, twice so many, ..) it is as DEEP as told, else 0");
        for (int every = 1; every <= 9; every++) {
            DayOldMaps maps = Checks.with("af7r" + every);
            int due = 0;
            for (int night = 0; night < 100; night++) {
                boolean back = night == due;
                if (back) due += every;
                checks.due("r" + every + ", night " + night, back ? 7 : 0, maps.deep(0, night));
            }
        }
    }

    private void silting() {
        checks.edge(10, "each so many NIGHTS it is one less DEEP, 0 at least");
        for (int every = 1; every <= 9; every++) {
            for (int told = 0; told <= 9; told++) {
                DayOldMaps maps = Checks.with("af" + told + "s" + every);
                int silted = told * every;
                checks.due("as told", told, maps.deep(0, 0));
                if (told > 0) checks.due("1 left", 1, maps.deep(0, silted - 1));
                if (told > 0) checks.due("as told till then", told, maps.deep(0, every - 1));
                checks.due("silted up", 0, maps.deep(0, silted));
                checks.due("no less than 0", 0, maps.deep(0, silted + every));
                checks.due("no less than 0", 0, maps.deep(0, 99));
            }
        }
    }

    private void pairs() {
        checks.edge(10, "each so many NIGHTS it has 9 less what it had");
        for (int every = 1; every <= 9; every++) {
            for (int told : new int[] {0, 4, 9}) {
                DayOldMaps maps = Checks.with("af" + told + "p" + every);
                for (int turn = 0; turn < 11; turn++) {
                    int due = turn % 2 == 0 ? told : 9 - told;
                    checks.due("turn " + turn, due, maps.deep(0, turn * every));
                    checks.due("to its end", due, maps.deep(0, turn * every + every - 1));
                }
            }
        }
    }

    private void jumping() {
        checks.edge(10, "j jumps: it is as told, but in a STORM 9 less that (its figure means nothing)");
        for (int every = 1; every <= 9; every++) {
            for (int told = 0; told <= 9; told++) {
                DayOldMaps maps = Checks.with("af" + told + "j" + every);
                for (int night : new int[] {0, 9, 99}) maps.storm(night);
                maps.storm(9);
                for (int night : new int[] {0, 9, 99}) checks.due("in a storm", 9 - told, maps.deep(0, night));
                for (int night : new int[] {1, 8, 10, 98}) checks.due("in none", told, maps.deep(0, night));
            }
        }
        checks.edge(10, "in such a NIGHT all CHANNELS that jump are so");
        DayOldMaps maps = Checks.with("af1j1;ab9j2;bc0j3;cd3w1;de3r1;ef3s9;af3p9");
        maps.storm(0);
        int[] due = {8, 0, 9, 3, 3, 3, 3};
        for (int c = 0; c < due.length; c++) checks.due("channel " + c, due[c], maps.deep(c, 0));
    }

    private void depthsOutside() {
        checks.edge(10, "BAD");
        DayOldMaps maps = Checks.with("ab5w1;bf5j1");
        for (int c : Checks.outside(0, 1)) checks.due("channel " + c, BAD, maps.deep(c, 0));
        for (int night : Checks.outside(0, 99)) checks.due("night " + night, BAD, maps.deep(0, night));
        checks.due("no delta", BAD, new DayOldMaps().deep(0, 0));
    }

    private void maps() {
        checks.edge(11, "that of NIGHT 0 those of NIGHT 0");
        DayOldMaps maps = Checks.with("ab5w1;bf2j1");
        checks.due("night 0", 5, maps.map(0, 0));
        checks.due("night 1", 5, maps.map(0, 1));
        checks.due("night 2", 6, maps.map(0, 2));
        checks.due("night 99", 3, maps.map(0, 99));
        maps.storm(0);
        maps.storm(98);
        maps.storm(99);
        checks.due("a storm in night 0, the map of 0", 7, maps.map(1, 0));
        checks.due("a storm in night 0, the map of 1", 7, maps.map(1, 1));
        checks.due("a storm in night 0, the map of 2", 2, maps.map(1, 2));
        checks.due("a storm in night 98, the map of 98", 2, maps.map(1, 98));
        checks.due("a storm in night 98, the map of 99", 7, maps.map(1, 99));
        maps.calm();
        checks.due("that of night 99 is on no map", 7, maps.map(1, 99));
        checks.edge(11, "BAD");
        for (int c : Checks.outside(0, 1)) checks.due("channel " + c, BAD, maps.map(c, 0));
        for (int night : Checks.outside(0, 99)) checks.due("night " + night, BAD, maps.map(0, night));
        checks.due("no delta", BAD, new DayOldMaps().map(0, 0));
    }
}
