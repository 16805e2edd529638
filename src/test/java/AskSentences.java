/** Promises 6 to 41: what can be asked. */
final class AskSentences {
    private static final Scene NO_ROOM = new Scene("");
    private static final Scene EMPTY = new Scene(PromiseTests.EMPTY);
    private static final Scene USED = Sentences.USED;
    private static final Scene FULL = new Scene(TermSentences.FULL);
    private static final Scene ROW = new Scene(PromiseTests.ROW);
    private static final Scene EATERS = new Scene(PromiseTests.EATERS);
    private static final String BARE = PromiseTests.BARE;
    private static final String BENCH = PromiseTests.BENCH;
    private static final String SOFA = PromiseTests.SOFA;

    private final Sentences s;

    AskSentences(Sentences sentences) {
        s = sentences;
    }

    void tell() {
        benchAndPerson();
        mayContentWarmest();
        rentsAndHeat();
        packed();
        coalAndCouples();
        sandwiches();
        trains();
        sureHours();
        beliefs();
        winning();
        priests();
        years();
    }

    private void noRoom(String... calls) {
        s.refused(NO_ROOM, 1, calls);
    }

    private void benchAndPerson() {
        s.of(6, "Of a bench 0 SORT (0 open, 1 upper, 2 island)");
        s.asked(USED, "bench 0 0 = 0", "bench 1 0 = 1", "bench 2 0 = 2", "bench 3 0 = 0");
        s.of(6, ", 1 its CELL (10 times the second number and the first)");
        s.asked(USED, "bench 0 1 = 1", "bench 1 1 = 3", "bench 2 1 = 22", "bench 3 1 = 35");
        s.asked(FULL, "bench 0 1 = 0", "bench 1 1 = 88", "bench 2 1 = 8", "bench 3 1 = 80");
        s.of(6, ", 2 seats, 3 rent, 4 heat alone, 5 WARMTH");
        s.asked(USED, "bench 0 2 = 2", "bench 3 2 = 3", "bench 0 3 = 5", "bench 3 3 = 1", "bench 0 4 = 26", "bench 0 5 = 32",
            "bench 1 4 = 18", "bench 1 5 = 21", "bench 3 4 = 0", "bench 3 5 = 0");
        s.asked(FULL, "bench 0 3 = 30", "bench 2 3 = 0", "bench 5 5 = 65");
        s.of(6, ", 6 who sits there NOW, as bits.");
        s.asked(USED, "bench 0 6 = 3", "bench 1 6 = 8", "bench 2 6 = 0", "bench 3 6 = 0");
        s.asked(FULL, "bench 3 6 = 1", "bench 4 6 = 98", "bench 5 6 = 28", "bench 0 6 = 0");
        s.of(6, "NONE: 1.");
        s.bounds(USED, "bench # 1", 0, 1, 3, 35, -1, 1);
        s.bounds(FULL, "bench # 3", 0, 30, 5, 3, -1, 1);
        s.bounds(USED, "bench 0 #", 0, 0, 6, 3, -1, 1);
        s.refused(USED, 1, "bench 4 7 = -1", "bench -1 -1 = -1");
        noRoom("bench 0 0 = -1", "bench 0 6 = -1", "bench -1 0 = -1", "bench 0 7 = -1");

        s.of(7, "Of a person 0 KIND (0 third, 1 first, 2 lady, 3 child), 1 cold");
        s.asked(USED, "person 0 0 = 0", "person 2 0 = 1", "person 1 0 = 2", "person 3 0 = 3", "person 0 1 = 20",
            "person 4 1 = 0");
        s.asked(FULL, "person 6 1 = 60");
        s.of(7, ", 2 the bench NOW (-2 he stands)");
        s.asked(USED, "person 0 2 = 0", "person 3 2 = 1", "person 2 2 = -2", "person 4 2 = -2");
        s.asked(FULL, "person 2 2 = 5");
        s.of(7, ", 3 1 if CONTENT");
        s.asked(USED, "person 0 3 = 1", "person 1 3 = 0", "person 3 3 = 0", "person 4 3 = 0");
        s.of(7, ", 4 BELIEF (-1, too)");
        s.asked(USED, "person 0 4 = 1", "person 2 4 = -1", "person 4 4 = 0");
        s.of(7, ", 5 people who wait for the same town, besides, as bits.");
        s.asked(USED, "person 0 5 = 18", "person 1 5 = 17", "person 2 5 = 8", "person 3 5 = 4");
        s.asked(FULL, "person 0 5 = 126", "person 6 5 = 63");
        s.asked(BENCH + ";person p third for x cold 0;person q third for xx cold 0", "person 0 5 = 0", "person 1 5 = 0");
        s.of(7, "-1,000: 1.");
        s.bounds(USED, "person # 1", 0, 20, 4, 0, -1000, 1);
        s.bounds(FULL, "person # 1", 0, 28, 6, 60, -1000, 1);
        s.bounds(USED, "person 0 #", 0, 0, 5, 18, -1000, 1);
        s.refused(USED, 1, "person 5 6 = -1000", "person -1 -1 = -1000");
        s.refused(EMPTY, 1, "person 0 0 = -1000");
        noRoom("person 0 0 = -1000", "person 0 6 = -1000");
    }

    private void mayContentWarmest() {
        s.of(8, "1 if one may sit on a bench (free or not), else 0.");
        s.asked(USED, "may 2 1 = 1", "may 3 1 = 1", "may 0 0 = 1", "may 4 0 = 1", "may 0 1 = 0", "may 2 2 = 0", "may 1 1 = 0");
        s.of(8, "NONE: 1.");
        s.bounds(USED, "may # 0", 0, 1, 4, 1, -1, 1);
        s.bounds(USED, "may 3 #", 0, 1, 3, 1, -1, 1);
        s.bounds(FULL, "may # 5", 0, 0, 6, 1, -1, 1);
        s.bounds(FULL, "may 6 #", 0, 1, 5, 1, -1, 1);
        s.refused(EMPTY, 1, "may 0 0 = -1");
        noRoom("may 0 0 = -1");

        s.of(9, "Who is CONTENT, as bits.");
        s.asked(USED, "content = 1");
        s.asked(FULL, "content = 55");
        s.asked(EMPTY, "content = 0");
        s.of(9, "NONE: 1 (no ROOM).");
        noRoom("content = -1");

        s.of(10, "The warmest bench with a free seat on which one may sit, by WARMTH");
        s.asked(USED, "warmest 0 = 3", "warmest 1 = 2", "warmest 2 = 3", "warmest 3 = 2");
        s.answers(USED, "stand 3 = 1", "warmest 3 = 1", "warmest 2 = 1", "stand 1 = 1", "warmest 3 = 0", "warmest 4 = 0");
        // 12 and 12; one who sits there makes the second warmer by 3
        String even = BENCH + ";bench c open at 2 0 seats 2 rent 1;person p third for x cold 60;person q third for x cold 0";
        s.answers(even, "warmest 0 = 0", "sit 1 1 = 1", "warmest 0 = 1", "bench 1 5 = 15");
        // 12, and 8 with one who sits there: 11; with two: 14, but it is full
        String near = BENCH + ";bench c open at 2 1 seats 3 rent 1;person p third for x cold 60;person q third for x cold 0 on c;"
            + "person r third for x cold 0";
        s.answers(near, "warmest 0 = 0", "sit 2 1 = 1", "warmest 0 = 1", "sit 0 1 = 1", "warmest 0 = 0", "bench 1 5 = 17");
        s.of(10, ", the first such");
        s.answers(even, "sit 1 1 = 1", "sit 0 0 = 1", "bench 0 5 = 15", "bench 1 5 = 15", "warmest 0 = 0", "warmest 1 = 0");
        s.of(10, "; -2.");
        s.asked(BARE + ";bench b upper at 1 1 seats 3 rent 0;person p third for x cold 0", "warmest 0 = -2");
        s.asked(BARE + ";bench b open at 1 1 seats 1 rent 0;person p third for x cold 0 on b;person q lady for x cold 0",
            "warmest 0 = -2", "warmest 1 = -2");
        // no warmth at all is a bench all the same
        s.asked("room wide 9 tall 9 stove 0 0 heat 1 stock 0;bench b open at 8 8 seats 1 rent 0;person p third for x cold 9",
            "warmest 0 = 0");
        s.of(10, "NONE: 1.");
        s.bounds(USED, "warmest #", 0, 3, 4, 3, -1, 1);
        s.refused(EMPTY, 1, "warmest 0 = -1");
        noRoom("warmest 0 = -1", "warmest -1 = -1");
    }

    private void rentsAndHeat() {
        s.of(11, "The sum of rents (of a bench for each who sits there NOW).");
        s.asked(USED, "rents = 19");
        s.asked(FULL, "rents = 16");
        s.asked(EMPTY, "rents = 0");
        s.answers(BARE + ";bench b open at 1 1 seats 3 rent 30;person p child for x cold 0 on b;person q child for x cold 0 on b;"
            + "person r child for x cold 60 on b", "rents = 90", "stand 1 = 1", "rents = 60", "stand 0 = 1", "stand 2 = 1",
            "rents = 0");
        s.of(11, "NONE: 1 (no ROOM).");
        noRoom("rents = -1");

        s.of(12, "The least heat (1 .. 60), in place of the one told, by which as many are CONTENT, where they sit NOW, as by 60.");
        String sitting = BENCH + ";person p third for x cold # on b";
        int[][] due = {{0, 1}, {1, 9}, {12, 20}, {51, 59}, {52, 60}, {53, 1}, {60, 1}};
        for (int[] cold : due) {
            s.asked(sitting.replace("#", "" + cold[0]), "heatFor = " + cold[1]);
            s.asked(sitting.replace("#", "" + cold[0]).replace("heat 20", "heat 60"), "heatFor = " + cold[1]);
            s.asked(sitting.replace("#", "" + cold[0]).replace("heat 20", "heat 1"), "heatFor = " + cold[1]);
        }
        s.asked(EMPTY, "heatFor = 1");
        s.asked(BENCH + ";person p third for x cold 5", "heatFor = 1");
        // a lady beside him is never CONTENT, whatever the heat; by 28 he is
        s.asked(BENCH + ";person p third for x cold 20 on b;person q lady for x cold 50 on b", "heatFor = 28");
        s.asked(USED, "heatFor = 37");
        s.of(12, "NONE: 1 (no ROOM).");
        noRoom("heatFor = -1");
    }

    private void packed() {
        s.of(13, "PACKING: how many are CONTENT.");
        s.asked(EMPTY, "packed = 0");
        s.asked(FULL, "packed = 5");
        s.asked(USED, "packed = 5");
        s.of(13, "NONE: 1 (no ROOM).");
        noRoom("packed = -1");
        s.of(14, "The bench of one by it; -2 he stands.");
        s.asked(FULL, "packedAt 0 = 0", "packedAt 1 = 4", "packedAt 2 = 5", "packedAt 3 = -2", "packedAt 4 = 0",
            "packedAt 5 = 4", "packedAt 6 = -2");
        s.of(14, "NONE: 1.");
        s.bounds(FULL, "packedAt #", 0, 0, 6, -2, -1, 1);
        s.bounds(USED, "packedAt #", 0, 0, 4, 3, -1, 1);
        s.refused(EMPTY, 1, "packedAt 0 = -1");
        noRoom("packedAt 0 = -1", "packedAt -1 = -1");
        s.of(15, "CHEAPEST: the rent.");
        s.asked(EMPTY, "cheapest = 0");
        s.asked(FULL, "cheapest = 8");
        s.asked(USED, "cheapest = 23");
        s.of(15, "NONE: 1 (no ROOM).");
        noRoom("cheapest = -1");
        s.of(16, "How many would be CONTENT by PACKING, were one not there.");
        s.asked(FULL, "packedWithout 0 = 4", "packedWithout 3 = 5");
        s.asked(BENCH + ";person p third for x cold 0", "packedWithout 0 = 0", "packed = 1");
        s.asked(BENCH + ";person p third for x cold 0;person q third for x cold 0;person r third for x cold 0",
            "packedWithout 0 = 2", "packedWithout 2 = 2", "packed = 2");
        s.of(16, "NONE: 1.");
        s.bounds(FULL, "packedWithout #", 0, 4, 6, 5, -1, 1);
        s.bounds(USED, "packedWithout #", 0, 4, 4, 4, -1, 1);
        s.refused(EMPTY, 1, "packedWithout 0 = -1");
        noRoom("packedWithout 0 = -1");
        bestSeat();
    }

    private void bestSeat() {
        s.of(17, "The bench by which, had it a seat more, most more would be CONTENT by PACKING");
        String last = BARE + ";bench b upper at 1 0 seats 1 rent 1;bench c open at 0 1 seats 1 rent 1;"
            + "person p third for x cold 16;person q third for x cold 13";
        s.asked(last, "bestSeat = 1", "packed = 1");
        // with three seats it could have four
        s.asked(BARE + ";bench b open at 1 0 seats 3 rent 1;person p child for x cold 0;person q child for x cold 0;"
            + "person r child for x cold 0;person t child for x cold 0", "packed = 3", "bestSeat = 0", "bench 0 2 = 3");
        s.asked(TermSentences.FULL.replace("seats 3 rent 2", "seats 1 rent 2").replace(" on e", ""), "packed = 4", "bestSeat = 4");
        s.of(17, ", the first such");
        s.asked(BARE + ";bench b open at 1 0 seats 1 rent 30;bench c open at 0 1 seats 1 rent 0;person p child for x cold 0;"
            + "person q child for x cold 0;person r child for x cold 0;person t child for x cold 0", "packed = 2",
            "bestSeat = 0");
        s.of(17, "; -2 none.");
        s.asked(FULL, "bestSeat = -2");
        s.asked(EMPTY, "bestSeat = -2");
        s.asked(BENCH + ";person p child for x cold 13", "bestSeat = -2", "packed = 0");
        s.asked(BENCH + ";person p child for x cold 12;person q child for x cold 12", "bestSeat = -2", "packed = 2");
        s.of(17, "NONE: 1 (no ROOM).");
        noRoom("bestSeat = -1");
    }

    private void coalAndCouples() {
        s.of(18, "COAL of so much (0 .. 999): what a bench pays.");
        s.asked(ROW, "coal 0 0 = 0", "coal 0 1 = 1", "coal 0 998 = 443", "coal 1 998 = 333", "coal 2 998 = 222",
            "coal 0 999 = 444", "coal 1 999 = 333", "coal 2 999 = 222");
        s.asked(EMPTY, "coal 0 999 = 0", "coal 1 999 = 0");
        s.of(18, "NONE: 1");
        s.bounds(ROW, "coal # 36", 0, 16, 2, 8, -1, 1);
        s.bounds(FULL, "coal # 0", 0, 0, 5, 0, -1, 1);
        s.refused(ROW, 1, "coal 3 1000 = -1", "coal -1 -1 = -1");
        noRoom("coal 0 0 = -1", "coal 0 1000 = -1");
        s.of(18, "; 2.");
        s.bounds(ROW, "coal 0 #", 0, 0, 999, 444, -1, 2);
        s.bounds(ROW, "coal 2 #", 0, 0, 999, 222, -1, 2);

        s.of(19, "COUPLES: how many.");
        s.asked(EMPTY, "couples = 0");
        s.asked(USED, "couples = 1");
        s.asked(FULL, "couples = 2");
        s.of(19, "NONE: 1 (no ROOM).");
        noRoom("couples = -1");
        s.of(20, "With whom one is in the first row");
        s.asked(FULL, "spouse 0 = 1", "spouse 1 = 0", "spouse 2 = 5", "spouse 5 = 2");
        s.of(20, "; -2 with nobody.");
        s.asked(FULL, "spouse 3 = -2", "spouse 4 = -2", "spouse 6 = -2");
        s.asked(BENCH + ";person p third for x cold 0", "spouse 0 = -2");
        s.of(20, "NONE: 1.");
        s.bounds(FULL, "spouse #", 0, 1, 6, -2, -1, 1);
        s.bounds(USED, "spouse #", 0, 1, 4, -2, -1, 1);
        s.refused(EMPTY, 1, "spouse 0 = -1");
        noRoom("spouse 0 = -1");
        s.of(21, "Whom one could marry, as bits.");
        s.asked(USED, "mayMarry 0 = 2", "mayMarry 1 = 17", "mayMarry 2 = 0", "mayMarry 3 = 0", "mayMarry 4 = 2");
        s.asked(FULL, "mayMarry 0 = 38", "mayMarry 5 = 7", "mayMarry 3 = 0");
        s.of(21, "NONE: 1.");
        s.bounds(FULL, "mayMarry #", 0, 38, 6, 0, -1, 1);
        s.bounds(USED, "mayMarry #", 0, 2, 4, 2, -1, 1);
        s.refused(EMPTY, 1, "mayMarry 0 = -1");
        noRoom("mayMarry 0 = -1");
    }

    private void sandwiches() {
        s.of(22, "How many DAYS from NOW on go by in each of which all people eat");
        for (int stock = 0; stock <= 12; stock++) {
            s.asked(PromiseTests.EATERS.replace("stock 6", "stock " + stock), "fed = " + stock / 4);
        }
        String one = "room wide 2 tall 2 stove 0 0 heat 1 stock 200;bench b open at 1 1 seats 1 rent 1;"
            + "person p lady for x cold 0";
        s.answers(one, "fed = 200", "day = 1", "fed = 199", "undo = 1", "fed = 200");
        s.asked(FULL, "fed = 28");
        s.of(22, "; -2 nobody is there.");
        s.asked(EMPTY, "fed = -2");
        s.of(22, "NONE: 1 (no ROOM).");
        noRoom("fed = -1");

        s.of(23, "What one has eaten behind so many days (0 .. 99) from NOW.");
        s.asked(EATERS, "eats 0 0 = 0", "eats 0 1 = 1", "eats 0 2 = 1", "eats 1 1 = 1", "eats 1 2 = 2", "eats 1 3 = 2",
            "eats 2 2 = 1", "eats 3 2 = 2", "eats 3 99 = 2");
        s.asked(EATERS.then("day"), "eats 0 1 = 0", "eats 1 1 = 1", "eats 3 1 = 1", "eats 3 99 = 1");
        s.asked(one, "eats 0 99 = 99", "eats 0 98 = 98");
        s.asked(one.replace("stock 200", "stock 99"), "eats 0 98 = 98", "eats 0 99 = 99");
        s.asked(one.replace("stock 200", "stock 98"), "eats 0 98 = 98", "eats 0 99 = 98");
        s.asked(one.replace("stock 200", "stock 0"), "eats 0 0 = 0", "eats 0 99 = 0");
        s.of(23, "NONE: 1");
        s.bounds(EATERS, "eats # 99", 0, 1, 3, 2, -1, 1);
        s.bounds(FULL, "eats # 99", 0, 29, 6, 29, -1, 1);
        s.asked(FULL, "eats 1 99 = 28", "eats 3 99 = 29", "eats 3 28 = 28", "eats 1 28 = 28");
        s.refused(EATERS, 1, "eats 4 100 = -1", "eats -1 -1 = -1");
        s.refused(EMPTY, 1, "eats 0 0 = -1");
        noRoom("eats 0 0 = -1", "eats 0 100 = -1");
        s.of(23, "; 2.");
        s.bounds(EATERS, "eats 1 #", 0, 0, 99, 2, -1, 2);

        s.of(24, "How many are left behind so many days.");
        s.asked(EATERS, "left 0 = 6", "left 1 = 2", "left 2 = 0", "left 3 = 0");
        s.asked(one, "left 98 = 102", "left 99 = 101");
        s.asked(one.replace("stock 200", "stock 99"), "left 98 = 1", "left 99 = 0");
        s.asked(EMPTY, "left 0 = 6", "left 99 = 6");
        s.of(24, "NONE: 1 (no ROOM)");
        noRoom("left 0 = -1", "left 100 = -1", "left -1 = -1");
        s.of(24, "; 2.");
        s.bounds(EATERS, "left #", 0, 6, 99, 0, -1, 2);
        s.bounds(EMPTY, "left #", 0, 6, 99, 6, -1, 2);
    }

    private void trains() {
        Scene six = new Scene(BENCH + ";rumble 5;rumble 11");
        Scene none = new Scene(BENCH + ";rumble 0;rumble 1");
        Scene all = new Scene(BENCH);
        s.of(25, "TRAINS: how many fit.");
        s.asked(six, "trains = 3");
        s.asked(none, "trains = 0");
        s.asked(all, "trains = 77");
        s.asked(USED, "trains = 1");
        s.of(25, "NONE: 1 (no ROOM).");
        noRoom("trains = -1");
        s.of(26, "The i-th, by hours between, then the first hour: 100 times the one and the other.");
        s.asked(six, "trainAt 0 = 201", "trainAt 1 = 302", "trainAt 2 = 605");
        s.asked(all, "trainAt 1 = 201", "trainAt 2 = 300", "trainAt 75 = 1210");
        s.of(26, "NONE: 1.");
        s.bounds(six, "trainAt #", 0, 201, 2, 605, -1, 1);
        s.bounds(all, "trainAt #", 0, 200, 76, 1211, -1, 1);
        s.bounds(USED, "trainAt #", 0, 907, 0, 907, -1, 1);
        s.refused(none, 1, "trainAt 0 = -1", "trainAt -1 = -1");
        noRoom("trainAt 0 = -1");
        s.of(27, "In how many of them one comes at an hour (0 .. 99).");
        s.asked(six, "comes 0 = 0", "comes 1 = 1", "comes 5 = 3", "comes 6 = 0", "comes 98 = 1", "comes 99 = 1");
        s.asked(all, "comes 0 = 11", "comes 99 = 11");
        s.asked(none, "comes 0 = 0", "comes 99 = 0");
        s.of(27, "NONE: 1 (no ROOM)");
        noRoom("comes 0 = -1", "comes 100 = -1", "comes -1 = -1");
        s.of(27, "; 2.");
        s.bounds(six, "comes #", 0, 0, 99, 1, -1, 2);
        s.bounds(none, "comes #", 0, 0, 99, 0, -1, 2);
    }

    private void sureHours() {
        Scene six = new Scene(BENCH + ";rumble 5;rumble 11");
        Scene none = new Scene(BENCH + ";rumble 0;rumble 1");
        s.of(28, "The first hour from one on (.. 99) at which one SURELY comes");
        s.asked(six, "surely 4 = 5", "surely 5 = 5", "surely 6 = 11", "surely 94 = 95", "surely 95 = 95");
        s.asked(BENCH + ";rumble 99", "surely 0 = 99", "surely 98 = 99", "surely 99 = 99");
        s.asked(BENCH + ";rumble 0", "surely 0 = 0", "surely 1 = -2");
        s.asked(BENCH + ";rumble 1;rumble 3", "surely 98 = 99", "surely 99 = 99", "surely 0 = 1");
        s.of(28, "; -2 (if none fits, too).");
        s.asked(six, "surely 96 = -2", "surely 99 = -2");
        s.asked(none, "surely 0 = -2", "surely 99 = -2");
        s.asked(BENCH, "surely 0 = -2");
        s.of(28, "NONE: 1 (no ROOM)");
        noRoom("surely 0 = -1", "surely 100 = -1", "surely -1 = -1");
        s.of(28, "; 2.");
        s.bounds(six, "surely #", 0, 5, 99, -2, -1, 2);
        s.bounds(none, "surely #", 0, -2, 99, -2, -1, 2);

        s.of(29, "LISTEN");
        s.asked(six, "listen = 1");
        s.asked(USED, "listen = 0");
        s.of(29, "; -2 none fits.");
        s.asked(none, "listen = -2");
        s.of(29, "NONE: 1 (no ROOM).");
        noRoom("listen = -1");
        s.of(30, "How many are left at most then");
        s.asked(six, "listenLeaves = 2");
        s.asked(USED, "listenLeaves = 1");
        s.asked(BENCH, "listenLeaves = 66");
        s.of(30, "; -2 likewise.");
        s.asked(none, "listenLeaves = -2");
        s.of(30, "NONE: 1 (no ROOM).");
        noRoom("listenLeaves = -1");
    }

    private void beliefs() {
        s.of(31, "How much one is drawn to believe: weights of those believing less those denying whom he heeds.");
        s.asked(USED, "drawn 0 = 3", "drawn 1 = -2", "drawn 2 = 0", "drawn 3 = 1", "drawn 4 = 4");
        String crowd = SOFA + ";person a third for x cold 0;person b third for x cold 0;person c third for x cold 0;"
            + "person d third for x cold 0;person e third for x cold 0;person f third for x cold 0;person g third for x cold 0;"
            + "heeds a b weight 9;heeds a c weight 9;heeds a d weight 9;heeds a e weight 9;heeds a f weight 9;"
            + "heeds a g weight 9;heeds g a weight 1";
        String belief = ";believes b;believes c;believes d;believes e;believes f;believes g";
        s.asked(crowd + belief, "drawn 0 = 54", "drawn 6 = 0");
        s.asked(crowd + belief.replace("believes", "denies"), "drawn 0 = -54");
        s.asked(crowd, "drawn 0 = 0");
        s.of(31, "-1,000: 1.");
        s.bounds(USED, "drawn #", 0, 3, 4, 4, -1000, 1);
        s.bounds(new Scene(crowd + belief), "drawn #", 0, 54, 6, 0, -1000, 1);
        s.refused(EMPTY, 1, "drawn 0 = -1000");
        noRoom("drawn 0 = -1000");

        s.of(32, "Who believes behind so many ROUNDS (0 .. 20), as bits.");
        s.asked(new Scene(TermSentences.RING), "believers 0 = 66", "believers 1 = 97", "believers 2 = 112",
            "believers 19 = 125", "believers 20 = 126");
        s.asked(PromiseTests.QUARREL, "believers 0 = 1", "believers 1 = 2", "believers 19 = 2", "believers 20 = 1");
        s.asked(PromiseTests.STATION, "believers 0 = 2", "believers 1 = 3", "believers 2 = 11", "believers 3 = 27",
            "believers 20 = 27");
        s.asked(EMPTY, "believers 0 = 0", "believers 20 = 0");
        s.of(32, "NONE: 1 (no ROOM)");
        noRoom("believers 0 = -1", "believers 21 = -1", "believers -1 = -1");
        s.of(32, "; 2.");
        s.bounds(new Scene(TermSentences.RING), "believers #", 0, 66, 20, 126, -1, 2);
        s.bounds(EMPTY, "believers #", 0, 0, 20, 0, -1, 2);

        s.of(33, "SETTLED; -2.");
        s.asked(EMPTY, "settled = 0");
        s.asked(PromiseTests.QUARREL, "settled = -2");
        s.asked(TermSentences.RING, "settled = -2");
        s.asked(new Scene(TermSentences.RING, "round"), "settled = 20");
        s.asked(new Scene(TermSentences.RING, "round", "round"), "settled = 19");
        s.asked(USED, "settled = 1");
        s.of(33, "NONE: 1 (no ROOM).");
        noRoom("settled = -1");
    }

    private void winning() {
        s.of(34, "WON, as bits");
        s.asked(USED, "won = 4");
        s.asked(TermSentences.RING, "won = 4");
        s.asked(new Scene(TermSentences.RING, "round"), "won = 0");
        s.asked(FULL, "won = 127");
        s.of(34, "; -2 it can't be.");
        // made to believe, all stay so: even first ones who deny are won by that, and without people all believe
        s.asked(SOFA + ";person a first for x cold 0;person b first for x cold 0;heeds a b weight 9;heeds b a weight 9;"
            + "denies a;denies b", "won = 3");
        s.asked(EMPTY, "won = 0");
        s.of(34, "NONE: 1 (no ROOM).");
        noRoom("won = -1");
        s.of(35, "The person by whom alone, made to believe NOW, most believe behind 20 ROUNDS");
        s.asked(TermSentences.HERD, "prophet = 1");
        s.asked(TermSentences.RING, "prophet = 2");
        s.asked(new Scene(TermSentences.RING, "round"), "prophet = 0");
        s.asked(SOFA + ";person a third for x cold 0;person b third for x cold 0;heeds a b weight 1", "prophet = 1");
        s.of(35, ", the first such");
        s.asked(FULL, "prophet = 0");
        s.asked(SOFA + ";person a third for x cold 0;person b third for x cold 0;believes a;believes b", "prophet = 0");
        s.asked(SOFA + ";person a third for x cold 0;person b third for x cold 0;believes a", "prophet = 1");
        s.of(35, "; -2 nobody is there.");
        s.asked(EMPTY, "prophet = -2");
        s.of(35, "NONE: 1 (no ROOM).");
        noRoom("prophet = -1");
    }

    private void priests() {
        s.of(36, "What the one (or other, the other one) has by both's loudness (0 .. 6) for so many (0 .. 99).");
        s.asked(USED, "shout 10 3 2 0 = 4", "shout 10 3 2 1 = -4", "shout 0 0 0 0 = 0", "shout 99 6 0 0 = 87");
        s.of(36, "-100: 1 (no ROOM)");
        noRoom("shout 0 0 0 0 = -100", "shout 0 0 0 1 = -100", "shout 100 7 7 0 = -100");
        s.of(36, "; 2.");
        s.bounds(EMPTY, "shout # 1 2 1", 0, -4, 99, 95, -100, 2);
        s.bounds(EMPTY, "shout 10 # 3 0", 0, 0, 6, -2, -100, 2);
        s.bounds(EMPTY, "shout 10 3 # 0", 0, 4, 6, -6, -100, 2);
        s.bounds(USED, "shout 10 3 # 1", 0, 0, 6, -2, -100, 2);
        s.refused(USED, 2, "shout 100 7 7 1 = -100", "shout -1 -1 -1 0 = -100");
        s.of(37, "How many RESTS.");
        s.asked(USED, "rests 0 = 1", "rests 4 = 4", "rests 5 = 0", "rests 23 = 0", "rests 24 = 1");
        s.of(37, "NONE: 1 (no ROOM)");
        noRoom("rests 0 = -1", "rests 100 = -1");
        s.of(37, "; 2.");
        s.bounds(EMPTY, "rests #", 0, 1, 99, 1, -1, 2);
        s.of(38, "The first, by the one's loudness, then the other one's: 10 times and");
        s.asked(USED, "rest 0 = 0", "rest 4 = 0", "rest 24 = 66", "rest 99 = 66");
        s.of(38, "; -2.");
        s.asked(USED, "rest 5 = -2", "rest 23 = -2");
        s.of(38, "NONE: likewise.");
        noRoom("rest 0 = -1", "rest 100 = -1");
        s.bounds(EMPTY, "rest #", 0, 0, 99, 66, -1, 2);
    }

    private void years() {
        Scene tight = new Scene(PromiseTests.TIGHT, "sit 1 0");
        s.of(39, "n YEARS (0 .. 90) by a SEED (0 .. 65,536) from NOW: how many are CONTENT then.");
        s.asked(tight, "years 0 0 = 1", "years 65536 0 = 1", "years 0 1 = 1", "years 65536 90 = 1", "years 0 3 = 0");
        s.asked(BENCH + ";person p child for x cold 12", "years 0 0 = 0", "years 0 1 = 1", "years 0 90 = 1",
            "years 65536 90 = 1");
        s.of(39, "NONE: 1 (no ROOM, nobody there)");
        noRoom("years 0 0 = -1", "years 65537 91 = -1");
        s.refused(EMPTY, 1, "years 0 0 = -1", "years 65537 91 = -1", "years -1 -1 = -1");
        s.of(39, "; 2.");
        s.bounds(tight, "years # 0", 0, 1, 65536, 1, -1, 2);
        s.bounds(tight, "years 65536 #", 0, 1, 90, 1, -1, 2);
        s.of(40, "The bench of one then; -2 he stands.");
        s.asked(tight, "yearsAt 1 0 0 = 0", "yearsAt 1 0 2 = 0", "yearsAt 1 0 3 = -2", "yearsAt 0 0 90 = " + benchOf(0));
        s.of(40, "NONE: 1");
        s.bounds(tight, "yearsAt # 0 0", 0, -2, 2, -2, -1, 1);
        s.bounds(FULL, "yearsAt # 0 0", 0, 3, 6, 4, -1, 1);
        s.refused(tight, 1, "yearsAt 3 65537 91 = -1", "yearsAt -1 -1 -1 = -1");
        s.refused(EMPTY, 1, "yearsAt 0 0 0 = -1");
        noRoom("yearsAt 0 0 0 = -1");
        s.of(40, "; 2.");
        s.bounds(tight, "yearsAt 1 # 0", 0, 0, 65536, 0, -1, 2);
        s.bounds(tight, "yearsAt 1 65536 #", 0, 0, 90, 0, -1, 2);
        s.of(41, "In how many of them (behind each) one is CONTENT.");
        s.asked(tight, "happy 1 65536 0 = 0", "happy 1 65536 1 = 1", "happy 1 65536 90 = 90", "happy 0 65536 90 = 0",
            "happy 1 0 3 = 2");
        s.of(41, "NONE: 1");
        s.bounds(tight, "happy # 65536 90", 0, 0, 2, 0, -1, 1);
        s.bounds(FULL, "happy # 0 0", 0, 0, 6, 0, -1, 1);
        s.refused(tight, 1, "happy 3 65537 91 = -1", "happy -1 -1 -1 = -1");
        s.refused(EMPTY, 1, "happy 0 0 0 = -1");
        noRoom("happy 0 0 0 = -1");
        s.of(41, "; 2.");
        s.bounds(tight, "happy 1 # 0", 0, 0, 65536, 0, -1, 2);
        s.bounds(tight, "happy 1 65536 #", 0, 0, 90, 90, -1, 2);
    }

    /** Where one of TIGHT is behind 90 YEARS by SEED 0, y sitting on a: the child may sit on both, the others on a alone. */
    private static int benchOf(int who) {
        int[] seat = {-2, 0, -2};
        long seed = 0;
        for (int year = 0; year < 90; year++) {
            seed = (75 * seed + 74) % 65537;
            int p = (int) (seed % 3);
            seed = (75 * seed + 74) % 65537;
            int b = (int) (seed % 2);
            seat[p] = -2;
            boolean free = seat[0] != b && seat[1] != b && seat[2] != b;
            boolean may = p == 0 || b == 0 || p == 2;
            seat[p] = free && may ? b : -2;
        }
        return seat[who];
    }
}
