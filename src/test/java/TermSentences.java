/** Terms II to IV, the constants, and how long an object is used. */
final class TermSentences {
    private static final String BARE = PromiseTests.BARE;
    /** Its bench is two cells from the stove: 12 warm. */
    private static final String BENCH = PromiseTests.BENCH;
    private static final String SOFA = PromiseTests.SOFA;
    private static final String TIGHT = PromiseTests.TIGHT;
    /** Six benches and seven people: 28, 28, 28, 28, 56 and 56 warm. */
    static final String FULL = "room wide 9 tall 9 stove 4 4 heat 60 stock 200;bench a open at 0 0 seats 3 rent 30;"
        + "bench b upper at 8 8 seats 3 rent 30;bench c island at 8 0 seats 3 rent 0;bench d open at 0 8 seats 3 rent 1;"
        + "bench e upper at 3 4 seats 3 rent 2;bench f island at 4 3 seats 3 rent 3;person p third for x cold 28 on d;"
        + "person q first for x cold 29 on e;person r lady for x cold 56 on f;person s child for x cold 57 on f;"
        + "person t child for x cold 0 on f;person u first for x cold 56 on e;person v child for x cold 60 on e";
    private static final String SEVEN = SOFA + ";person a third for x cold 0;person b third for x cold 0;"
        + "person c third for x cold 0;person d third for x cold 0;person e third for x cold 0;person f third for x cold 0;";
    /** A ring of seven by which all believe behind 21 ROUNDS, and not behind 20. */
    static final String RING = SEVEN + "person g lady for x cold 0;heeds a b weight 2;heeds b c weight 3;heeds c d weight 1;"
        + "heeds d e weight 2;heeds e f weight 3;heeds f g weight 3;heeds g a weight 3;heeds f b weight 1;heeds f a weight 3;"
        + "believes b;denies c;denies d;denies e;believes g";
    /** A ring in which most follow a behind 19 ROUNDS, b behind 20, c behind 21. */
    static final String HERD = SEVEN.replace("f third", "f lady") + "person g third for x cold 0;heeds a b weight 3;"
        + "heeds b c weight 3;heeds c d weight 1;heeds d e weight 2;heeds e f weight 3;heeds f g weight 1;heeds g a weight 2;"
        + "heeds c a weight 3;heeds c b weight 1;denies a;denies b;denies c;denies d;denies f";

    private final Sentences s;

    TermSentences(Sentences sentences) {
        s = sentences;
    }

    void tell() {
        calls();
        warmth();
        content();
        packing();
        coal();
        couples();
        sandwichesAndTrains();
        rounds();
        settledAndWon();
        shouts();
        years();
        acts();
        troubles();
    }

    private void of(String words) {
        s.of(Sentences.TERMS, words);
    }

    private void calls() {
        s.of(Sentences.WHAT_IT_IS, "An object is used for at most 512 calls after it has been made; what later calls answer is "
            + "free.");
        Scene.Actor actor = Sentences.USED.make();
        int belief = 0;
        while (actor.calls() < 509) {
            belief = belief == 1 ? -1 : 1;
            s.check("preach", actor.call("preach 4 " + belief), 1);
        }
        s.check("call 510, size(11)", actor.call("size 11"), 16);
        s.check("call 511, undo()", actor.call("undo"), 1);
        s.check("call 512, person()", actor.call("person 4 4"), -belief);
        BenchColony colony = new BenchColony();
        Face.feed(colony, FULL);
        colony.room(FULL.length());
        for (int i = 0; i < 3000; i++) {
            String[] call = Face.CALLS[i % Face.CALLS.length].split(" ");
            Face.call(colony, call[0], new int[Integer.parseInt(call[1])]);
        }
    }

    private void warmth() {
        of("II. WARMTH of a bench: heat, 4 less for each cell it is from the stove (wide and tall together)");
        s.answers(FULL, "bench 0 4 = 28", "bench 1 4 = 28", "bench 2 4 = 28", "bench 3 4 = 28", "bench 4 4 = 56",
            "bench 5 4 = 56", "bench 0 5 = 28");
        s.answers("room wide 9 tall 3 stove 0 0 heat 50 stock 0;bench a open at 1 0 seats 1 rent 0;"
            + "bench b open at 0 1 seats 1 rent 0;bench c open at 8 0 seats 1 rent 0;bench d open at 8 2 seats 1 rent 0",
            "bench 0 4 = 46", "bench 1 4 = 46", "bench 2 4 = 18", "bench 3 4 = 10");
        of(", 0 at least");
        String line = "room wide 9 tall 1 stove 0 0 heat 8 stock 0;bench b open at 2 0 seats 1 rent 0";
        s.answers(line, "bench 0 4 = 0", "bench 0 5 = 0");
        s.answers(line.replace("heat 8", "heat 9"), "bench 0 4 = 1", "bench 0 5 = 1");
        s.answers(line.replace("heat 8", "heat 7"), "bench 0 4 = 0", "bench 0 5 = 0");
        s.answers(line.replace("heat 8", "heat 1"), "bench 0 4 = 0", "bench 0 5 = 0");
        // 16, 15 and 14 cells away from 60
        s.answers("room wide 9 tall 9 stove 0 0 heat 60 stock 0;bench a open at 8 8 seats 1 rent 0;"
            + "bench b open at 7 8 seats 1 rent 0;bench c open at 7 7 seats 1 rent 0;bench d open at 8 7 seats 1 rent 0",
            "bench 0 4 = 0", "bench 1 4 = 0", "bench 2 4 = 4", "bench 3 4 = 0");
        of("; 3 more for each who sits there NOW besides.");
        s.answers("room wide 9 tall 9 stove 0 0 heat 1 stock 0;bench b open at 8 8 seats 3 rent 0;"
            + "person p child for x cold 0;person q child for x cold 0;person r child for x cold 0", "bench 0 5 = 0",
            "sit 1 0 = 1", "bench 0 5 = 3", "sit 0 0 = 1", "bench 0 5 = 6", "sit 2 0 = 1", "bench 0 5 = 9",
            "bench 0 4 = 0", "stand 1 = 1", "bench 0 5 = 6", "undo = 1", "bench 0 5 = 9");
        s.answers(FULL, "bench 5 5 = 65", "bench 3 5 = 31", "bench 1 5 = 28");
        of("A third one may sit on open benches, a first one on open and upper ones, a lady on open ones and islands, a child "
            + "on all.");
        s.answers(FULL, "may 0 0 = 1", "may 0 1 = 0", "may 0 2 = 0", "may 1 0 = 1", "may 1 1 = 1", "may 1 2 = 0",
            "may 2 0 = 1", "may 2 1 = 0", "may 2 2 = 1", "may 3 0 = 1", "may 3 1 = 1", "may 3 2 = 1");
    }

    private void content() {
        of("CONTENT: one who sits on a bench whose heat alone (nobody sitting there) is as much as his cold, or more");
        String three = BARE + ";bench b open at 1 1 seats 3 rent 4;person p third for x cold 11 on b;"
            + "person q third for x cold 12 on b;person r third for x cold 13 on b";
        s.answers(three, "bench 0 4 = 12", "bench 0 5 = 21", "content = 3", "person 0 3 = 1", "person 1 3 = 1",
            "person 2 3 = 0", "stand 0 = 1", "content = 2", "person 0 3 = 0", "stand 1 = 1", "content = 0", "sit 1 0 = 1",
            "content = 2");
        String far = "room wide 9 tall 9 stove 0 0 heat 60 stock 0;bench b open at 8 8 seats 2 rent 0;"
            + "person p third for x cold 0 on b;person q third for x cold 1 on b";
        s.answers(far, "bench 0 4 = 0", "content = 1");
        s.answers(far.replace("8 8", "7 7").replace("cold 0", "cold 4").replace("cold 1", "cold 5"), "content = 1");
        // nobody is CONTENT standing, not even without cold
        s.answers(BENCH + ";person p third for x cold 0", "content = 0", "sit 0 0 = 1", "content = 1");
        of("; a lady only if no first or third one sits there.");
        String lady = BARE + ";bench b open at 1 1 seats 3 rent 4;bench c open at 1 0 seats 1 rent 0;"
            + "person p lady for x cold 12 on b;person q lady for x cold 12;person r child for x cold 12;"
            + "person s first for x cold 12;person t third for x cold 60";
        s.answers(lady, "content = 1", "sit 1 0 = 1", "content = 3", "sit 2 0 = 1", "content = 7", "stand 2 = 1",
            "sit 3 0 = 1", "content = 8", "person 0 3 = 0", "person 1 3 = 0", "stand 3 = 1", "content = 3", "sit 4 0 = 1",
            "content = 0", "sit 4 1 = 1", "content = 3", "stand 0 = 1", "content = 2");
    }

    private void packing() {
        of("PACKING: all people anew to benches");
        Scene anew = new Scene(BARE + ";bench a open at 1 0 seats 1 rent 1;bench b open at 2 0 seats 1 rent 2;"
            + "person p third for x cold 0 on a;person q third for x cold 16");
        s.asked(anew, "packed = 2", "packedAt 0 = 1", "packedAt 1 = 0");
        s.answers(anew, "packed = 2", "person 0 2 = 0", "person 1 2 = -2", "stand 0 = 1", "packed = 2", "packedAt 0 = 1",
            "size 11 = 1");
        of(", where they may sit");
        String upper = BARE + ";bench b upper at 1 1 seats 3 rent 4;person p third for x cold 0;person q lady for x cold 0";
        s.answers(upper, "packed = 0", "packedAt 0 = -2", "packedAt 1 = -2", "cheapest = 0");
        s.answers(upper + ";person r first for x cold 0;person t child for x cold 0", "packed = 2", "packedAt 2 = 0",
            "packedAt 3 = 0", "packedAt 0 = -2");
        of(", whose heat alone is as much as their cold, or more (a lady as others)");
        s.answers(BENCH + ";person p third for x cold 11", "packed = 1");
        s.answers(BENCH + ";person p third for x cold 12", "packed = 1");
        s.answers(BENCH + ";person p third for x cold 13", "packed = 0");
        s.answers(BENCH + ";person p third for x cold 13;person q child for x cold 12 on b", "packed = 1", "packedAt 0 = -2");
        s.answers(BENCH + ";person p lady for x cold 12;person q third for x cold 12", "packed = 2", "sit 0 0 = 1",
            "sit 1 0 = 1", "content = 2");
        of(", no more to each than it has seats");
        for (int seats = 1; seats <= 3; seats++) {
            String text = BARE + ";bench b open at 1 1 seats " + seats + " rent 30;person p child for x cold 0;"
                + "person q child for x cold 0;person r child for x cold 0;person t child for x cold 0";
            s.answers(text, "packed = " + seats, "packedAt " + (seats - 1) + " = 0", "packedAt " + seats + " = -2",
                "cheapest = " + 30 * seats);
        }
        of(", the others stand: by which most sit");
        s.answers(TIGHT, "packed = 2", "packedAt 0 = 1", "packedAt 1 = 0", "packedAt 2 = -2");
        String row = "room wide 9 tall 1 stove 0 0 heat 40 stock 0;bench i open at 1 0 seats 1 rent 0;"
            + "bench j open at 2 0 seats 1 rent 0;bench k open at 3 0 seats 1 rent 0;bench l open at 4 0 seats 1 rent 0;"
            + "bench m open at 5 0 seats 1 rent 0;bench n open at 6 0 seats 1 rent 0;person a third for x cold 16;"
            + "person b third for x cold 20;person c third for x cold 24;person d third for x cold 28;"
            + "person e third for x cold 32;person f third for x cold 36";
        s.answers(row, "packed = 6", "packedAt 0 = 5", "packedAt 1 = 4", "packedAt 2 = 3", "packedAt 3 = 2",
            "packedAt 4 = 1", "packedAt 5 = 0");
        s.answers(row + ";person g third for x cold 37", "packed = 6", "packedAt 6 = -2", "packedAt 0 = 5");
        s.answers(row + ";person g third for x cold 36", "packed = 6", "packedAt 6 = -2", "packedAt 5 = 0", "bestSeat = 0");
        // two who may sit on the first bench alone, and one who may give way to either, but not to both
        s.answers("room wide 9 tall 1 stove 0 0 heat 40 stock 0;bench a open at 1 0 seats 1 rent 0;"
            + "bench b upper at 2 0 seats 1 rent 0;bench c upper at 3 0 seats 1 rent 0;person p child for x cold 0;"
            + "person q lady for x cold 0;person r lady for x cold 0", "packed = 2", "packedAt 0 = 1", "packedAt 1 = 0",
            "packedAt 2 = -2");
        of("; of like ones the first by people's benches (standing behind all).");
        s.answers(BENCH + ";bench c open at 2 1 seats 2 rent 0;person p third for x cold 0;person q third for x cold 0;"
            + "person r third for x cold 0", "packedAt 0 = 0", "packedAt 1 = 0", "packedAt 2 = 1", "cheapest = 4");
        s.answers(BARE + ";bench b open at 1 0 seats 1 rent 1;person p third for x cold 0;person q third for x cold 0 on b",
            "packed = 1", "packedAt 0 = 0", "packedAt 1 = -2", "person 1 2 = 0");
        of("CHEAPEST: of all rows by which as many sit the least sum of rents (of a bench for each who sits there).");
        s.answers(TIGHT, "cheapest = 11");
        s.answers(BARE + ";bench b open at 1 0 seats 1 rent 30;bench c open at 2 0 seats 1 rent 0;person p third for x cold 12",
            "packedAt 0 = 0", "cheapest = 0");
        s.answers(BARE + ";bench b open at 1 0 seats 1 rent 30;bench c open at 2 0 seats 1 rent 0;person p third for x cold 13",
            "packedAt 0 = 0", "cheapest = 30");
        String dear = BARE + ";bench i open at 1 0 seats 3 rent 30;bench j open at 0 1 seats 3 rent 30;"
            + "bench k open at 1 1 seats 3 rent 30";
        s.answers(SEVEN.replace(SOFA, dear) + "person g child for x cold 0", "packed = 7", "cheapest = 210");
    }

    private void coal() {
        of("COAL of so much: benches pay by their heat alone times how many sit there NOW: as much as goes by these of all, "
            + "downwards");
        String row = PromiseTests.ROW;
        s.answers(row, "coal 0 9 = 4", "coal 1 9 = 3", "coal 2 9 = 2", "coal 0 36 = 16", "coal 1 36 = 12", "coal 2 36 = 8",
            "stand 2 = 1", "coal 0 28 = 16", "coal 1 28 = 12", "coal 2 28 = 0", "sit 2 0 = 1", "coal 0 44 = 32",
            "coal 1 44 = 12");
        of("; what is left one by one to those with the greatest rests, the first of like");
        // of 36: 160, 120 and 80 have rests 16, 12, 8; 176, 132, 88 have 32, 24, 16; 32, 24, 16; 16, 12, 8
        s.answers(row, "coal 0 10 = 5", "coal 1 10 = 3", "coal 2 10 = 2", "coal 0 11 = 5", "coal 1 11 = 4", "coal 2 11 = 2",
            "coal 0 2 = 1", "coal 1 2 = 1", "coal 2 2 = 0", "coal 0 1 = 1", "coal 1 1 = 0", "coal 2 1 = 0");
        // of 36: 64, 48, 32 have rests 28, 12, 32: the third comes ahead of the first
        s.answers(row, "coal 0 4 = 2", "coal 1 4 = 1", "coal 2 4 = 1", "coal 0 3 = 1", "coal 1 3 = 1", "coal 2 3 = 1");
        String like = "room wide 3 tall 3 stove 1 1 heat 20 stock 0;bench a open at 0 1 seats 1 rent 0;"
            + "bench b open at 2 1 seats 1 rent 0;bench c open at 1 0 seats 1 rent 0;bench d open at 1 2 seats 1 rent 0;"
            + "person p child for x cold 0 on d;person q child for x cold 0 on c;person r child for x cold 0 on b;"
            + "person t child for x cold 0 on a";
        s.answers(like, "coal 0 5 = 2", "coal 1 5 = 1", "coal 3 5 = 1", "coal 1 6 = 2", "coal 2 6 = 1", "coal 2 7 = 2",
            "coal 3 7 = 1", "coal 3 8 = 2", "coal 0 1 = 1", "coal 1 1 = 0", "coal 0 999 = 250", "coal 2 999 = 250",
            "coal 3 999 = 249");
        of("; nobody pays if all are 0.");
        s.answers(BENCH + ";person p child for x cold 0", "coal 0 999 = 0", "sit 0 0 = 1", "coal 0 999 = 999",
            "coal 0 1 = 1", "stand 0 = 1", "coal 0 999 = 0", "coal 0 0 = 0");
        String cold = "room wide 9 tall 1 stove 0 0 heat 8 stock 0;bench b open at 2 0 seats 1 rent 0;"
            + "bench c open at 1 0 seats 1 rent 0;person p child for x cold 0 on b;person q child for x cold 0";
        s.answers(cold, "coal 0 999 = 0", "coal 1 999 = 0", "sit 1 1 = 1", "coal 0 999 = 0", "coal 1 999 = 999");
        s.answers(cold.replace("heat 8", "heat 9"), "coal 0 999 = 999", "coal 1 999 = 0");
    }

    private void couples() {
        of("COUPLES: two who wait for one town, no kin, no children: each in one at most: the most");
        s.answers(SOFA, "couples = 0");
        s.answers(SOFA + ";person a third for x cold 0", "couples = 0", "spouse 0 = -2");
        s.answers(SOFA + ";person a third for x cold 0;person b third for x cold 0", "couples = 1", "spouse 0 = 1");
        s.answers(SOFA + ";person a third for x cold 0;person b third for y cold 0", "couples = 0", "mayMarry 0 = 0");
        s.answers(SOFA + ";person a third for x cold 0;person b third for x cold 0;kin b a", "couples = 0", "mayMarry 0 = 0");
        s.answers(SOFA + ";person a third for x cold 0;person b child for x cold 0", "couples = 0", "mayMarry 0 = 0",
            "mayMarry 1 = 0");
        s.answers(SOFA + ";person a child for x cold 0;person b child for x cold 0", "couples = 0");
        s.answers(SEVEN.substring(0, SEVEN.length() - 1), "couples = 3");
        s.answers(SEVEN + "person g third for x cold 0", "couples = 3", "mayMarry 0 = 126", "mayMarry 6 = 63");
        of("; of like ones the first by people (with the least one, then alone).");
        s.answers(SEVEN + "person g third for x cold 0", "spouse 0 = 1", "spouse 1 = 0", "spouse 2 = 3", "spouse 3 = 2",
            "spouse 4 = 5", "spouse 5 = 4", "spouse 6 = -2");
        String four = SOFA + ";person a third for x cold 0;person b third for x cold 0;person c third for x cold 0;"
            + "person d third for x cold 0";
        s.answers(four + ";kin a b", "couples = 2", "spouse 0 = 2", "spouse 1 = 3");
        // c can wed a alone: a and b would leave c and d alone
        s.answers(four + ";kin b c;kin c d", "couples = 2", "spouse 0 = 2", "spouse 1 = 3");
        // a may wed b or be alone: b and c are no more couples than a and b
        s.answers(four + ";kin a c;kin a d;kin b d;kin c d", "couples = 1", "spouse 0 = 1", "spouse 2 = -2", "spouse 3 = -2");
    }

    private void sandwichesAndTrains() {
        of("III. SANDWICHES: each day each eats one (children first, then others by numbers) as long as there are any.");
        String eaters = PromiseTests.EATERS;
        int[] ate = {0, 2, 10, 11, 15, 15};
        for (int stock = 0; stock <= 5; stock++) {
            s.answers(eaters.replace("stock 6", "stock " + stock), "day = " + ate[stock], "size 9 = " + Math.max(0, stock - 4),
                "day = " + (stock == 5 ? 2 : 0), "size 9 = 0", "day = 0");
        }
        of("TRAINS: every so many hours (2 .. 12), the first at an hour below that");
        s.answers(BENCH, "trains = 77", "trainAt 0 = 200", "trainAt 1 = 201", "trainAt 2 = 300", "trainAt 4 = 302",
            "trainAt 5 = 400", "trainAt 64 = 1110", "trainAt 65 = 1200", "trainAt 76 = 1211");
        s.answers(BENCH + ";rumble 0;rumble 1", "trains = 0");
        s.answers(BENCH + ";rumble 0;rumble 2", "trains = 1", "trainAt 0 = 200");
        s.answers(BENCH + ";rumble 0;rumble 11", "trains = 1", "trainAt 0 = 1100");
        s.answers(BENCH + ";rumble 0;rumble 12", "trains = 5", "trainAt 0 = 200", "trainAt 4 = 1200");
        s.answers(BENCH + ";rumble 0;rumble 13", "trains = 0");
        s.answers(BENCH + ";rumble 11;rumble 23", "trains = 5", "trainAt 4 = 1211");
        s.answers(BENCH + ";rumble 99", "trains = 11", "trainAt 0 = 201", "trainAt 10 = 1203");
        of(": those by which all rumbles are at a train, no quiet is.");
        s.answers(BENCH + ";rumble 5;rumble 11", "trains = 3", "trainAt 0 = 201", "trainAt 1 = 302", "trainAt 2 = 605");
        s.answers(BENCH + ";rumble 5;rumble 11;quiet 7", "trains = 2", "trainAt 0 = 302");
        s.answers(BENCH + ";quiet 0", "trains = 66", "trainAt 0 = 201");
        s.answers(BENCH + ";quiet 0;quiet 1", "trains = 55", "trainAt 0 = 302");
        of("SURELY comes one at an hour if one does by each that fits.");
        s.answers(BENCH + ";rumble 5;rumble 11", "surely 0 = 5", "surely 6 = 11", "surely 12 = 17");
        s.answers(BENCH, "surely 0 = -2");
        s.answers(BENCH + ";rumble 0;rumble 1", "surely 0 = -2");
        s.answers(BENCH + ";rumble 0;rumble 2", "surely 1 = 2", "surely 98 = 98", "surely 99 = -2");
        of("LISTEN: the hour (0 .. 99) by which, it being told whether it rumbles, at most fewest are left, the first such.");
        s.answers(BENCH + ";rumble 5;rumble 11", "listen = 1", "listenLeaves = 2");
        // of the trains each 11 and each 12 hours, both from 0 on, one alone comes at 11
        s.answers(BENCH + ";rumble 0;quiet 6;quiet 7;quiet 8;quiet 9;quiet 10", "trains = 2", "trainAt 0 = 1100",
            "listen = 11", "listenLeaves = 1");
        // one train: what is told changes nothing
        s.answers(BENCH + ";rumble 0;rumble 2", "listen = 0", "listenLeaves = 1");
        // of 77, at each hour 11 come
        s.answers(BENCH, "listen = 0", "listenLeaves = 66");
    }

    private void rounds() {
        of("BELIEF: 1, 0 unsure, -1.");
        s.answers(PromiseTests.STATION, "person 0 4 = 0", "person 1 4 = 1", "person 2 4 = -1");
        of("A ROUND: all at once");
        s.answers(PromiseTests.QUARREL, "round = 3", "person 0 4 = -1", "person 1 4 = 1");
        of(": of those who heed somebody");
        String heeding = SOFA + ";person a third for x cold 0;person b third for x cold 0;person c third for x cold 0;";
        s.answers(heeding + "heeds a b weight 1;believes b;denies c", "round = 1", "person 0 4 = 1", "person 1 4 = 1",
            "person 2 4 = -1", "round = 0");
        s.answers(heeding + "believes b;denies c", "round = 0", "person 0 4 = 0", "settled = 0");
        of(": 1 if the weights of those believing whom he heeds are more than of those denying, -1 if less, else as it is.");
        for (int belief = -1; belief <= 1; belief++) {
            String a = belief == 0 ? "" : belief == 1 ? ";believes a" : ";denies a";
            for (int weight = 4; weight <= 6; weight++) {
                int drawn = 5 - weight;
                int due = drawn > 0 ? 1 : drawn < 0 ? -1 : belief;
                s.answers(heeding + "heeds a b weight 5;heeds a c weight " + weight + ";believes b;denies c" + a,
                    "drawn 0 = " + drawn, "round = " + (due == belief ? 0 : 1), "person 0 4 = " + due);
            }
            s.answers(heeding + "heeds a b weight 9;heeds a c weight 9" + a, "drawn 0 = 0", "round = 0",
                "person 0 4 = " + belief);
        }
        of("A lady who believes, a first one who denies doesn't change.");
        String firm = BENCH + ";person l lady for x cold 0;person f first for x cold 0;person n third for x cold 0;"
            + "person y third for x cold 0;heeds l n weight 9;heeds f y weight 9;denies n;believes y";
        s.answers(firm + ";believes l;denies f", "drawn 0 = -9", "drawn 1 = 9", "round = 0", "person 0 4 = 1",
            "person 1 4 = -1");
        s.answers(firm, "round = 3", "person 0 4 = -1", "person 1 4 = 1");
        s.answers(firm.replace("denies n;believes y", "believes n;denies y") + ";denies l;believes f", "round = 3",
            "person 0 4 = 1", "person 1 4 = -1");
        // the same of a third one and a child
        s.answers(firm.replace("lady", "third").replace("first", "child") + ";believes l;denies f", "round = 3");
    }

    private void settledAndWon() {
        of("SETTLED: the least number of ROUNDS (0 .. 20) behind which a ROUND changes nothing");
        s.answers(RING, "settled = -2", "believers 19 = 125", "believers 20 = 126", "round = 35", "settled = 20",
            "believers 19 = 126", "believers 20 = 127", "undo = 1", "settled = -2", "round = 35", "round = 17",
            "settled = 19", "believers 19 = 127");
        s.answers(SOFA, "settled = 0");
        s.answers(SOFA + ";person a third for x cold 0;person b third for x cold 0;heeds a b weight 1;believes b",
            "settled = 1", "round = 1", "settled = 0");
        of("; -2 none.");
        s.answers(PromiseTests.QUARREL, "settled = -2");
        of("WON: the fewest people who must be made to believe NOW so that behind 20 ROUNDS all do");
        s.answers(RING, "won = 4", "round = 35", "won = 0");
        s.answers(SOFA, "won = 0");
        s.answers(SEVEN + "person g third for x cold 0", "won = 127", "preach 3 1 = 1", "won = 119");
        // one alone is fewer than two of less bits
        s.answers(SOFA + ";person a lady for x cold 0;person b lady for x cold 0;person c third for x cold 0;"
            + "heeds c a weight 1;heeds c b weight 1;heeds a c weight 1;heeds b c weight 1;denies a;denies b;denies c",
            "won = 4");
        of(": of like ones the least bits.");
        String pair = SOFA + ";person a lady for x cold 0;person b lady for x cold 0;heeds a b weight 1;heeds b a weight 1";
        s.answers(pair, "won = 1", "preach 1 1 = 1", "won = 0");
        // in a ring of three ladies each would do
        s.answers(pair.replace("heeds b a", "heeds b c").replace(";heeds a", ";person c lady for x cold 0;heeds a")
            + ";heeds c a weight 1", "won = 1");
    }

    private void shouts() {
        Scene room = new Scene(BENCH);
        of("SHOUTS: two priests, 0 .. 6 loud each, for so many who listen: the louder one has them");
        s.asked(room, "shout 10 1 0 0 = 8", "shout 10 1 0 1 = 0", "shout 10 0 1 0 = 0", "shout 10 0 1 1 = 8",
            "shout 99 6 5 0 = 87", "shout 99 6 5 1 = -10", "shout 99 5 6 1 = 87", "shout 99 0 6 1 = 87");
        of(", both half (downwards) if alike");
        s.asked(room, "shout 10 0 0 0 = 5", "shout 11 0 0 0 = 5", "shout 11 0 0 1 = 5", "shout 1 0 0 0 = 0",
            "shout 2 0 0 1 = 1", "shout 99 6 6 0 = 37", "shout 98 6 6 1 = 37", "shout 1 1 1 0 = -2");
        of("; each loses twice his loudness.");
        s.asked(room, "shout 0 6 6 0 = -12", "shout 0 6 0 0 = -12", "shout 0 6 0 1 = 0", "shout 0 0 0 0 = 0",
            "shout 0 1 2 0 = -2", "shout 0 1 2 1 = -4");
        of("REST: a pair by which neither could have more alone.");
        // for 0 to 2 nobody shouts; by 3 one may as well; from 5 on the other is always outdone, until by 24 nobody can be
        s.asked(room, "rests 0 = 1", "rests 1 = 1", "rests 2 = 1", "rests 3 = 3", "rests 4 = 4", "rests 5 = 0", "rests 6 = 0",
            "rests 22 = 0", "rests 23 = 0", "rests 24 = 1", "rests 25 = 1", "rests 99 = 1");
        s.asked(room, "rest 0 = 0", "rest 3 = 0", "rest 4 = 0", "rest 5 = -2", "rest 23 = -2", "rest 24 = 66", "rest 99 = 66");
    }

    private void years() {
        of("A YEAR by DRAWS (SEED becomes (75 times SEED and 74) mod 65,537)");
        // 872 becomes 65,474 (z), then 60,886 (a); 873 wraps to 12 (x), then 974 (a)
        s.answers(TIGHT, "yearsAt 2 872 1 = 0", "yearsAt 0 872 1 = -2", "yearsAt 0 873 1 = 0", "yearsAt 2 873 1 = -2");
        // 45,438 becomes 0 (x), then 74 (a); 65,536 stays (y, a); 65,535 becomes 65,461 (y), then 59,911 (b: not for him)
        s.answers(TIGHT, "yearsAt 0 45438 1 = 0", "yearsAt 1 65536 1 = 0", "yearsAt 1 65536 90 = 0", "yearsAt 0 65536 90 = -2",
            "yearsAt 1 65535 1 = -2", "sit 1 0 = 1", "yearsAt 1 65535 0 = 0", "yearsAt 1 65535 1 = -2");
        of(": a DRAW mod people, a DRAW mod benches");
        // 0 becomes 74 (2 of 3), 5,624 (0 of 2), 28,652 (2 of 3), 51,790 (0 of 2), 17,641 (1 of 3), 12,409 (1 of 2)
        s.answers(TIGHT, "yearsAt 2 0 1 = 0", "yearsAt 2 0 2 = 0", "yearsAt 1 0 3 = -2", "years 0 3 = 1");
        // of seven people and six benches: 74 is 4, 5,624 is 2; 28,652 is 1, 51,790 is 4; 17,641 is 1, 12,409 is 1
        s.answers(FULL, "yearsAt 4 0 0 = 5", "yearsAt 4 0 1 = 2", "yearsAt 1 0 1 = 4", "yearsAt 1 0 2 = 4",
            "yearsAt 1 0 3 = 1", "yearsAt 4 0 3 = 2");
        of(": that one gets up, then sits there, if he may and there is a free seat, else he stands.");
        // the only seat is his own: he sits on it again
        s.answers(BARE + ";bench b open at 1 1 seats 1 rent 0;person p child for x cold 12 on b", "yearsAt 0 7 1 = 0",
            "happy 0 7 90 = 90");
        // he mayn't sit on the only bench
        s.answers(BARE + ";bench b island at 1 1 seats 1 rent 0;person p third for x cold 0", "yearsAt 0 7 1 = -2",
            "years 7 90 = 0");
        // y has the only seat of a, so z finds none; x, who sits on b, gets up for a (873) and finds none
        s.answers(TIGHT, "sit 1 0 = 1", "yearsAt 2 872 1 = -2", "sit 0 1 = 1", "yearsAt 0 873 0 = 1", "yearsAt 0 873 1 = -2",
            "yearsAt 1 873 1 = 0", "person 0 2 = 1");
    }

    private void acts() {
        of("ACTS: SIT, STAND, PREACH (somebody believes, denies, is unsure), ROUND, DAY (sandwiches).");
        s.answers(PromiseTests.STATION, "size 11 = 0", "sit 3 1 = 1", "size 11 = 1", "stand 3 = 1", "size 11 = 2",
            "preach 3 1 = 1", "preach 3 -1 = 1", "preach 3 0 = 1", "size 11 = 5", "round = 1", "size 11 = 6", "day = 31",
            "size 11 = 7", "image = 0", "years 5 5", "won", "packed", "size 11 = 7", "undo = 1", "size 11 = 6");
        of("UNDO: the latest (16 are kept).");
        for (int acts = 15; acts <= 17; acts++) {
            Scene scene = new Scene(BENCH);
            for (int i = 0; i < acts; i++) {
                scene = scene.then("day");
            }
            s.answers(scene, "size 10 = " + acts, "size 11 = " + Math.min(16, acts));
            for (int i = 0; i < Math.min(16, acts); i++) {
                scene = scene.then("undo");
            }
            s.answers(scene, "trouble = 0", "size 10 = " + (acts == 17 ? 1 : 0), "size 11 = 0", "undo = 0", "trouble = 6",
                "size 10 = " + (acts == 17 ? 1 : 0));
        }
        of("IMAGES: up to 3; gone back to one, nothing can be undone.");
        s.answers(Sentences.USED, "image = 2", "size 12 = 3", "image = -1", "trouble = 3", "size 11 = 5", "back 2 = 1",
            "size 11 = 0", "undo = 0", "trouble = 6", "size 12 = 3", "preach 4 1 = 1", "undo = 1", "undo = 0");
    }

    private void troubles() {
        of("IV. TROUBLE of the latest call that may be refused (those of which a number is told here): 0 it wasn't");
        s.answers("", "trouble = 0", "fed = -1", "trouble = 1", "trouble = 1", "feed 0 0 0 0 0 = 20", "size 9 = 0",
            "size 99 = -1", "led 0 = throws", "fault = 0", "where = -1", "trouble = 1");
        s.answers(BENCH, "trouble = 0", "undo = 0", "trouble = 6", "fed = -2", "trouble = 0");
        of("; 1 there is none such");
        s.refused("", 1, "content = -1", "image = -1", "bench 0 0 = -1", "stand 0 = 0", "back 0 = 0");
        of("; 2 a number");
        s.refused(BENCH, 2, "left 100 = -1", "comes 100 = -1", "coal 0 1000 = -1", "believers 21 = -1", "room 1 = -1");
        of("; 3 no room");
        s.refused(Sentences.USED.then("image"), 3, "image = -1", "sit 4 0 = 0");
        of("; 4 a FAULT");
        s.faulty(1, "^#");
        of("; 5 not so");
        s.refused(Sentences.USED, 5, "sit 0 0 = 0", "stand 2 = 0", "preach 1 1 = 0");
        of("; 6 there is none.");
        s.refused(BENCH, 6, "undo = 0");
        of("The constants: `NONE = -1`: There is none; refused.");
        s.check("NONE", BenchColony.NONE, -1);
    }
}
