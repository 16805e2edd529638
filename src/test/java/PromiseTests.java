/**
 * For each promise of the document: ordinary inputs, the edges that it names, and wrong inputs, with the answers worked out
 * by hand. A step is told as "call number number = answer"; a boolean counts 1 or 0.
 */
public final class PromiseTests {
    static final String STATION = "room wide 6 tall 4 stove 0 0 heat 30 stock 10;"
        + "bench oak open at 1 0 seats 2 rent 5;bench top upper at 3 0 seats 1 rent 9;"
        + "bench isle island at 2 2 seats 1 rent 3;bench far open at 5 3 seats 3 rent 1;"
        + "person al third for rome cold 20 on oak;person bea lady for rome cold 14 on oak;"
        + "person cy first for york cold 18;person di child for york cold 25;person ed third for rome cold 0 on far;"
        + "kin al ed;heeds al bea weight 3;heeds bea cy weight 2;heeds di al weight 1;heeds ed di weight 4;"
        + "believes bea;denies cy;rumble 7;rumble 16;quiet 10";
    static final String BARE = "room wide 3 tall 3 stove 0 0 heat 20 stock 6";
    static final String BENCH = BARE + ";bench b open at 1 1 seats 2 rent 4";
    static final String SOFA = BARE + ";bench sofa open at 1 1 seats 2 rent 4";
    /** Nobody waits here. */
    static final String EMPTY = BARE + ";bench b open at 1 1 seats 2 rent 4;bench c upper at 2 2 seats 1 rent 0";
    /** Warm enough for x: both benches (8 and 4); y: the first alone by sort; z: the first alone by cold. */
    static final String TIGHT = "room wide 3 tall 1 stove 0 0 heat 12 stock 7;"
        + "bench a open at 1 0 seats 1 rent 9;bench b island at 2 0 seats 1 rent 2;"
        + "person x child for rome cold 0;person y third for rome cold 0;person z lady for york cold 5";
    /** Three in a row, each on a bench of his own, 16, 12 and 8 warm. */
    static final String ROW = "room wide 4 tall 1 stove 0 0 heat 20 stock 0;"
        + "bench a open at 1 0 seats 2 rent 1;bench b open at 2 0 seats 1 rent 2;bench c open at 3 0 seats 1 rent 30;"
        + "person x third for rome cold 16 on a;person y third for rome cold 13 on b;person z child for rome cold 0 on c";
    /** a, b, c and d of one town; c and d are kin, e is a child, f waits for another town. */
    static final String TOWN = SOFA + ";person a third for rome cold 1;person b lady for rome cold 2;"
        + "person c first for rome cold 3;person d third for rome cold 4;person e child for rome cold 5;"
        + "person f third for bonn cold 6";
    static final String EATERS = SOFA + ";person a third for rome cold 0;person b child for rome cold 0;"
        + "person c lady for rome cold 0;person d child for rome cold 0";
    /** Two who would be each of the other's mind, for ever. */
    static final String QUARREL = SOFA + ";person a third for rome cold 0;person b child for rome cold 0;"
        + "heeds a b weight 2;heeds b a weight 3;believes a;denies b";

    private static int passed;
    private static int failed;

    private PromiseTests() {
    }

    public static void main(String[] args) {
        theRoom();
        faultsOfForm();
        faultsOfNames();
        faultsOfNumbersAndPlaces();
        now();
        packed();
        coalAndCouples();
        sandwiches();
        trains();
        beliefs();
        priests();
        years();
        acts();
        undoAndImages();
        whatIsTold();
        trouble();
        refusedInOrder();
        System.out.println(passed + " passed, " + failed + " failed");
        if (failed > 0) {
            System.exit(1);
        }
    }

    // ---- how steps are told

    private static BenchColony colonyOf(String text) {
        BenchColony x = new BenchColony();
        if (!text.isEmpty()) {
            Face.feed(x, text);
            if (x.room(text.length()) == BenchColony.NONE) {
                failed++;
                System.out.println("FAULT " + x.fault() + " at " + x.where() + " in " + text);
            }
        }
        return x;
    }

    private static void run(int promise, String text, String... steps) {
        steps(promise, colonyOf(text), steps);
    }

    private static void steps(int promise, BenchColony x, String... steps) {
        for (String step : steps) {
            String[] sides = step.split(" = ");
            String[] call = sides[0].split(" ");
            int[] numbers = new int[call.length - 1];
            for (int i = 0; i < numbers.length; i++) {
                numbers[i] = Integer.parseInt(call[i + 1]);
            }
            int due = sides[1].equals("throws") ? Face.THROWN : Integer.parseInt(sides[1]);
            check("promise " + promise + ": " + sides[0], Face.call(x, call[0], numbers), due);
        }
    }

    private static void check(String what, int got, int due) {
        if (got == due) {
            passed++;
        } else {
            failed++;
            System.out.println(what + " answered " + got + ", due is " + due);
        }
    }

    /** The text has a ^ at the place of its FAULT. */
    private static void faulty(int number, String marked) {
        int place = marked.indexOf('^');
        String text = marked.substring(0, place) + marked.substring(place + 1);
        BenchColony x = new BenchColony();
        Face.feed(x, text);
        check("promise 3: room() of " + marked, x.room(text.length()), BenchColony.NONE);
        check("promise 4: fault() of " + marked, x.fault(), number);
        check("promise 5: where() of " + marked, x.where(), place);
        check("promise 52: trouble() of " + marked, x.trouble(), 4);
    }

    private static void good(String text) {
        BenchColony x = new BenchColony();
        Face.feed(x, text);
        check("promise 3: room() of " + text, x.room(text.length()) > 0 ? 1 : 0, 1);
        check("promise 4: fault() of " + text, x.fault(), 0);
        check("promise 5: where() of " + text, x.where(), BenchColony.NONE);
    }

    // ---- promises 1 to 5

    private static void theRoom() {
        for (int what = 0; what <= 13; what++) {
            run(1, "", "size " + what + " = 0");
        }
        run(1, "", "trouble = 0", "fault = 0", "where = -1", "content = -1", "trouble = 1", "led 0 = throws");

        BenchColony x = new BenchColony();
        for (int i = 1; i <= 50; i++) {
            check("promise 2: feed", x.feed(-1, 0, 1, Integer.MIN_VALUE, 7), 20 * i);
        }
        steps(2, x, "feed 1 2 3 4 5 = -1", "size 13 = 1000", "trouble = 0", "feed 1 2 3 4 5 = -1", "room 1001 = -1",
            "trouble = 2", "size 13 = 1000", "feed 1 2 3 4 5 = -1", "trouble = 2", "room 1000 = -1", "trouble = 4",
            "fault = 1", "where = 0", "size 13 = 0", "feed 1 2 3 4 5 = 20");

        run(3, STATION, "size 3 = 4", "trouble = 0", "size 13 = 0");
        x = colonyOf(STATION);
        steps(3, x, "sit 3 1 = 1", "day = 31", "image = 0", "room 1 = -1", "trouble = 2", "room -1 = -1", "trouble = 2",
            "fault = 0", "where = -1");
        Face.feed(x, "room wide 0");
        steps(3, x, "room 21 = -1", "trouble = 2", "size 13 = 20", "room 11 = -1", "trouble = 4", "size 13 = 0",
            "fault = 4", "where = 10", "size 3 = 4", "size 11 = 2", "size 12 = 1", "size 9 = 5", "person 3 2 = 1",
            "trouble = 0", "where = -1", "fault = 4", "room 5 = -1", "trouble = 2", "fault = 4", "where = -1");
        Face.feed(x, EMPTY);
        steps(3, x, "room " + EMPTY.length() + " = 2", "trouble = 0", "fault = 0", "where = -1", "size 13 = 0",
            "size 4 = 0", "size 5 = 0", "size 6 = 0", "size 7 = 0", "size 8 = 0", "size 9 = 6", "size 10 = 0",
            "size 11 = 0", "size 12 = 0", "undo = 0", "back 0 = 0", "trains = 77");
        for (int again = 0; again < 3; again++) {
            Face.feed(x, STATION);
            steps(3, x, "room " + STATION.length() + " = 4", "size 9 = 10", "size 10 = 0", "person 3 2 = -2",
                "person 1 4 = 1", "size 4 = 5", "size 5 = 1", "size 6 = 4", "size 7 = 2", "size 8 = 1", "trains = 1",
                "comes 7 = 1", "comes 8 = 0", "day = 31", "stand 0 = 1", "preach 1 0 = 1");
        }

        x = colonyOf(STATION);
        steps(5, x, "where = -1", "room 0 = -1", "trouble = 4", "fault = 1", "where = 0", "feed 1 2 3 4 5 = 20",
            "size 99 = -1", "led 9 = throws", "fault = 1", "where = 0", "content = 17", "where = -1", "fault = 1");
        good("  " + BENCH.replace(" ", "   ") + "   ");
        good("room wide2tall2stove0 0heat60stock200;bench b upper at1 1seats3rent30");
        good("room wide 09 tall 009 stove 008 8 heat 060 stock 000;bench b island at 0 0 seats 03 rent 00");
    }

    private static void faultsOfForm() {
        faulty(1, "^");
        faulty(1, "   ^");
        faulty(1, "^#");
        faulty(1, "^;" + BENCH);
        faulty(1, "^on");
        faulty(1, "^rooms wide 2");
        faulty(1, "^roo");
        faulty(1, "^Room wide 2");
        faulty(1, "room^");
        faulty(1, "room ^tall 2");
        faulty(1, "room wide ^tall 2");
        faulty(1, "room wide ^1000");
        faulty(1, "room wide 2 tall 2 stove 0 ^heat 2");
        faulty(1, "room wide 2\n".replace("\n", "^\n") + "tall 2");
        faulty(1, "room wide ^-1");
        faulty(1, BARE + " ^room");
        faulty(1, BARE + ";^");
        faulty(1, BENCH + ";^");
        faulty(1, BENCH + " ; ^; person p third for x cold 0");
        faulty(1, BENCH + " ^5");
        faulty(1, BENCH + ";  ^");
        faulty(1, BENCH + ";^7");
        faulty(1, BENCH + ";^abcdefghi");
        faulty(1, BENCH + ";^" + (char) 233);
        faulty(1, BENCH + ";^" + (char) 0);
        faulty(1, BARE + ";bench ^abcdefghi open at 1 1 seats 1 rent 1");
        faulty(1, BARE + ";bench ^5 open at 1 1 seats 1 rent 1");
        for (String kept : new String[] {"room", "bench", "person", "kin", "heeds", "believes", "denies", "rumble",
            "quiet", "on"}) {
            faulty(1, BARE + ";bench ^" + kept + " open at 1 1 seats 1 rent 1");
            faulty(1, BENCH + ";person ^" + kept + " third for x cold 0");
            faulty(1, BENCH + ";person p third for x cold 0 on ^" + kept);
            faulty(1, BENCH + ";person p third for x cold 0;kin p ^" + kept);
            faulty(1, BENCH + ";believes ^" + kept);
            good(BENCH + ";person p third for " + kept + " cold 0");
        }
        faulty(1, BARE + ";bench b ^low at 1 1 seats 1 rent 1");
        faulty(1, BARE + ";bench b open ^1 1 seats 1 rent 1");
        faulty(1, BARE + ";bench b open at 1 1 seats 1 rent^");
        faulty(1, BENCH + ";person p ^old for x cold 0");
        faulty(1, BENCH + ";person p third for ^5 cold 0");
        faulty(1, BENCH + ";person p third for ^abcdefghi cold 0");
        faulty(1, BENCH + ";person p third for x ^on b");
        faulty(1, BENCH + ";person p third for x cold 0 ^at b");
        faulty(1, BENCH + ";person p third for x cold 0 on^");
        faulty(1, BENCH + ";person p third for x cold 0 on b ^on b");
        faulty(1, BENCH + ";person p third for x cold 0;heeds p ^5");
        faulty(1, BENCH + ";person p third for x cold 0;person q third for x cold 0;heeds p q^");
        faulty(1, BENCH + ";rumble ^p");
        faulty(1, BENCH + ";quiet^");
        good(BARE + ";bench at open at 1 1 seats 1 rent 1;person open child for seats cold 1 on at");
        good(BARE + ";bench abcdefgh open at 1 1 seats 1 rent 1;person abcdefg child for abcdefgh cold 1 on abcdefgh");
    }

    private static void faultsOfNames() {
        String two = BENCH + ";person p third for x cold 0;person q lady for x cold 0";
        good(BARE + ";bench a open at 1 1 seats 1 rent 1;bench aa open at 1 2 seats 1 rent 1;person ba child for x cold 0 on aa;"
            + "person b child for x cold 0 on a;person aaaaaaaa child for x cold 0;kin b ba;kin b aaaaaaaa");
        run(7, BENCH + ";person p third for a cold 0;person q third for aa cold 0;person r third for aa cold 0;"
            + "person s third for aaaaaaaa cold 0;person t third for abaaaaaa cold 0", "person 0 5 = 0", "person 1 5 = 4",
            "person 3 5 = 0", "person 4 5 = 0");
        faulty(2, BENCH + ";person p third for x cold 0 on ^c");
        faulty(2, BENCH + ";person p third for x cold 0 on ^p");
        faulty(2, two + ";person r third for x cold 0 on ^q");
        faulty(2, BENCH + ";kin ^p q");
        faulty(2, two + ";kin ^b q");
        faulty(2, two + ";kin p ^b");
        faulty(2, two + ";kin p ^r");
        faulty(2, two + ";heeds ^r q weight 1");
        faulty(2, two + ";heeds p ^b weight 1");
        faulty(2, two + ";believes ^b");
        faulty(2, two + ";denies ^r");
        faulty(2, BENCH + ";believes ^p;person p third for x cold 0");

        faulty(3, BENCH + ";bench ^b open at 0 1 seats 1 rent 1");
        faulty(3, BENCH + ";person ^b third for x cold 0");
        faulty(3, two + ";person ^p third for x cold 0");
        faulty(3, two + ";bench ^p open at 0 1 seats 1 rent 1");
        faulty(3, two + ";kin p ^p");
        faulty(3, two + ";kin p q;kin p ^q");
        faulty(3, two + ";kin p q;kin q ^p");
        faulty(3, two + ";heeds q ^q weight 1");
        faulty(3, two + ";heeds p q weight 1;heeds p ^q weight 2");
        good(two + ";heeds p q weight 1;heeds q p weight 9;kin p q");
        faulty(3, two + ";believes p;believes ^p");
        faulty(3, two + ";believes p;denies ^p");
        faulty(3, two + ";denies q;believes ^q");
        faulty(3, two + ";denies q;denies ^q");
        good(two + ";denies q;believes p");
        faulty(3, BENCH + ";rumble 7;rumble ^7");
        faulty(3, BENCH + ";rumble 7;quiet ^07");
        faulty(3, BENCH + ";quiet 0;rumble ^0");
        faulty(3, BARE + ";^room");
        faulty(3, BENCH + ";^room wide 99");
    }

    private static void faultsOfNumbersAndPlaces() {
        faulty(4, "room wide ^0");
        faulty(4, "room wide ^10");
        faulty(4, "room wide 1 tall ^0");
        faulty(4, "room wide 1 tall ^10");
        faulty(4, "room wide 2 tall 3 stove ^2");
        faulty(4, "room wide 2 tall 3 stove 1 ^3");
        faulty(4, "room wide 2 tall 3 stove 1 2 heat ^0");
        faulty(4, "room wide 2 tall 3 stove 1 2 heat ^61");
        faulty(4, "room wide 2 tall 3 stove 1 2 heat 1 stock ^201");
        faulty(4, "room wide 2 tall 3 stove 0 0 heat 1 stock 0;bench b open at ^2 0");
        faulty(4, "room wide 2 tall 3 stove 0 0 heat 1 stock 0;bench b open at 1 ^3");
        faulty(4, BARE + ";bench b open at 1 1 seats ^0");
        faulty(4, BARE + ";bench b open at 1 1 seats ^4");
        faulty(4, BARE + ";bench b open at 1 1 seats 1 rent ^31");
        faulty(4, BENCH + ";person p third for x cold ^61");
        faulty(4, BENCH + ";person p third for x cold 0;person q third for x cold 0;heeds p q weight ^0");
        faulty(4, BENCH + ";person p third for x cold 0;person q third for x cold 0;heeds p q weight ^10");
        faulty(4, BENCH + ";rumble ^100");
        faulty(4, BENCH + ";quiet ^999");
        good(BENCH + ";quiet 99;rumble 0");

        String six = BARE + ";bench a open at 0 1 seats 1 rent 1;bench b open at 0 2 seats 1 rent 1;"
            + "bench c open at 1 0 seats 1 rent 1;bench d open at 1 1 seats 1 rent 1;bench e open at 1 2 seats 1 rent 1;"
            + "bench f open at 2 0 seats 1 rent 1";
        good(six);
        faulty(5, six + ";^bench f");
        StringBuilder seven = new StringBuilder(BENCH);
        for (char p = 'p'; p < 'w'; p++) {
            seven.append(";person ").append(p).append(" third for x cold 0");
        }
        good(seven.toString());
        faulty(5, seven + ";^person");
        String kin = seven + ";kin p q;kin p r;kin p s;kin p t;kin p u;kin p v";
        good(kin);
        faulty(5, kin + ";^kin q r");
        StringBuilder heeds = new StringBuilder(seven);
        for (String pair : "p q,p r,p s,p t,p u,p v,q p,q r,q s".split(",")) {
            heeds.append(";heeds ").append(pair).append(" weight 1");
        }
        good(heeds.toString());
        faulty(5, heeds + ";^heeds q q");
        String hours = BENCH + ";rumble 1;quiet 2;rumble 3;quiet 4;rumble 5;quiet 6;rumble 7;quiet 8";
        good(hours);
        faulty(5, hours + ";^rumble 1");
        faulty(5, hours + ";^quiet");

        for (String word : "bench person kin heeds believes denies rumble quiet".split(" ")) {
            faulty(6, "^" + word);
            faulty(6, "^" + word + " 5;" + BENCH);
        }
        faulty(6, BARE + "^");
        faulty(6, BARE + "  ^");
        faulty(6, BARE + ";person p third for x cold 0^");

        faulty(7, BARE + ";bench b open at 0 ^0 seats 9");
        faulty(7, BENCH + ";bench c open at 1 ^1");
        faulty(7, "room wide 9 tall 5 stove 4 2 heat 60 stock 0;bench a open at 4 ^2 seats 1 rent 0");
        good("room wide 9 tall 5 stove 4 2 heat 60 stock 0;bench a open at 2 4 seats 1 rent 0");
        good("room wide 9 tall 5 stove 4 2 heat 60 stock 0;bench a open at 0 0 seats 1 rent 0");
        good(BENCH + ";bench c open at 1 2 seats 1 rent 1;bench d open at 2 1 seats 1 rent 1");
        faulty(7, BARE + ";bench b upper at 1 1 seats 1 rent 1;person p third for x cold 0 on ^b");
        faulty(7, BARE + ";bench b island at 1 1 seats 1 rent 1;person p third for x cold 0 on ^b");
        faulty(7, BARE + ";bench b island at 1 1 seats 1 rent 1;person p first for x cold 0 on ^b");
        faulty(7, BARE + ";bench b upper at 1 1 seats 1 rent 1;person p lady for x cold 0 on ^b");
        faulty(7, BENCH + ";person p third for x cold 0 on b;person q child for x cold 0 on b;"
            + "person r lady for x cold 0 on ^b");
        good(BARE + ";bench b upper at 1 1 seats 1 rent 1;person p first for x cold 0 on b");
        good(BARE + ";bench b upper at 1 1 seats 1 rent 1;person p child for x cold 60 on b");
        good(BARE + ";bench b island at 1 1 seats 2 rent 1;person p lady for x cold 0 on b;person q child for x cold 0 on b");
    }

    // ---- promises 6 to 12

    private static void now() {
        run(6, STATION, "bench 0 0 = 0", "bench 1 0 = 1", "bench 2 0 = 2", "bench 0 1 = 1", "bench 1 1 = 3",
            "bench 2 1 = 22", "bench 3 1 = 35", "bench 0 2 = 2", "bench 3 2 = 3", "bench 1 3 = 9", "bench 3 3 = 1",
            "bench 0 4 = 26", "bench 1 4 = 18", "bench 2 4 = 14", "bench 3 4 = 0", "bench 0 5 = 32", "bench 1 5 = 18",
            "bench 3 5 = 3", "bench 0 6 = 3", "bench 1 6 = 0", "bench 3 6 = 16", "trouble = 0", "bench 4 0 = -1",
            "trouble = 1", "bench 0 6 = 3", "bench -1 0 = -1", "trouble = 1", "bench 0 0 = 0", "bench 0 7 = -1",
            "trouble = 1", "bench 0 0 = 0", "bench 0 -1 = -1", "trouble = 1", "sit 3 3 = 1", "bench 3 5 = 6",
            "bench 3 6 = 24");
        run(6, "", "bench 0 0 = -1", "trouble = 1");

        // a stove amid the room: cells count on both sides of it
        run(6, "room wide 9 tall 5 stove 4 2 heat 60 stock 0;bench a open at 0 0 seats 1 rent 0;"
            + "bench b open at 8 4 seats 1 rent 0;bench c open at 4 1 seats 1 rent 0;bench d open at 3 2 seats 1 rent 0",
            "bench 0 4 = 36", "bench 1 4 = 36", "bench 2 4 = 56", "bench 3 4 = 56", "bench 1 1 = 48", "bench 1 5 = 36");

        run(7, STATION, "person 0 0 = 0", "person 2 0 = 1", "person 1 0 = 2", "person 3 0 = 3", "person 0 1 = 20",
            "person 4 1 = 0", "person 0 2 = 0", "person 2 2 = -2", "person 4 2 = 3", "person 0 3 = 1", "person 1 3 = 0",
            "person 2 3 = 0", "person 4 3 = 1", "person 0 4 = 0", "person 1 4 = 1", "person 2 4 = -1", "trouble = 0",
            "person 0 5 = 18", "person 2 5 = 8", "person 3 5 = 4", "person 4 5 = 3", "person 5 0 = -1000", "trouble = 1",
            "person 0 0 = 0", "person -1 0 = -1000", "trouble = 1", "person 0 0 = 0", "person 0 6 = -1000",
            "trouble = 1", "person 0 0 = 0", "person 0 -1 = -1000", "trouble = 1");
        run(7, "", "person 0 0 = -1000", "trouble = 1");

        run(8, STATION, "may 0 0 = 1", "may 0 1 = 0", "may 0 2 = 0", "may 2 0 = 1", "may 2 1 = 1", "may 2 2 = 0",
            "may 1 0 = 1", "may 1 1 = 0", "may 1 2 = 1", "may 3 0 = 1", "may 3 1 = 1", "may 3 2 = 1", "trouble = 0",
            "may 5 0 = -1", "trouble = 1", "may 0 0 = 1", "may 0 4 = -1", "trouble = 1", "may 0 0 = 1", "may -1 0 = -1",
            "may 0 -1 = -1", "trouble = 1");

        // bea beside al, then beside nobody, beside a child, beside a first one; di's cold is 25, cy's 18
        run(9, STATION, "content = 17", "stand 0 = 1", "content = 18", "sit 3 0 = 1", "content = 26", "stand 3 = 1",
            "sit 2 0 = 1", "content = 20", "sit 2 1 = 1", "content = 22", "stand 1 = 1", "sit 1 2 = 1", "content = 22",
            "sit 1 3 = 1", "content = 20", "sit 3 1 = 0", "stand 2 = 1", "sit 3 1 = 1", "content = 16", "trouble = 0");
        run(9, EMPTY, "content = 0", "trouble = 0");
        run(9, "", "content = -1", "trouble = 1");
        // one's own warmth, and that of others, doesn't count
        run(9, ROW, "content = 5", "stand 2 = 1", "sit 2 0 = 1", "content = 5", "stand 1 = 1", "content = 5");
        // a lady isn't troubled by a lady
        run(9, BENCH + ";person p lady for x cold 12 on b;person q lady for y cold 12 on b", "content = 3");
        run(9, BENCH + ";person p lady for x cold 12 on b;person q first for y cold 12 on b", "content = 2");
        run(9, BENCH + ";person p lady for x cold 13 on b;person q child for y cold 12 on b", "content = 2");

        run(10, STATION, "warmest 0 = 3", "warmest 1 = 2", "warmest 2 = 1", "warmest 3 = 1", "stand 1 = 1",
            "warmest 0 = 0", "warmest 1 = 0", "warmest 3 = 0", "trouble = 0", "warmest 5 = -1", "trouble = 1",
            "warmest 0 = 0", "warmest -1 = -1", "trouble = 1");
        run(10, BENCH + ";person p first for x cold 60 on b;person q third for x cold 0 on b", "warmest 0 = -2",
            "trouble = 0");
        // 12 and 12: the first; then the second is warmer by who sits there
        String even = BENCH + ";bench c open at 2 0 seats 2 rent 1;person p third for x cold 60;person q third for x cold 0";
        run(10, even, "warmest 0 = 0", "sit 1 1 = 1", "warmest 0 = 1", "warmest 1 = 1", "sit 0 0 = 1", "warmest 1 = 0");
        run(10, EMPTY, "warmest 0 = -1", "trouble = 1");
        run(10, BARE + ";bench b open at 2 2 seats 1 rent 1;bench c open at 1 2 seats 1 rent 1;person p child for x cold 0",
            "warmest 0 = 1");

        run(11, STATION, "rents = 11", "sit 2 1 = 1", "rents = 20", "stand 0 = 1", "rents = 15", "trouble = 0");
        run(11, EMPTY, "rents = 0");
        run(11, "", "rents = -1", "trouble = 1");

        // al needs 20 a cell away; ed nothing; bea can't be; then with di and bea apart: 25 by 29, 14 by 30
        run(12, STATION, "heatFor = 24", "sit 1 2 = 1", "heatFor = 30", "stand 0 = 1", "stand 1 = 1", "heatFor = 1",
            "sit 3 3 = 1", "heatFor = 57", "trouble = 0");
        run(12, ROW, "heatFor = 21");
        // cold 60 two cells away is never warm enough
        run(12, BENCH + ";person p third for x cold 60 on b", "heatFor = 1");
        run(12, BENCH + ";person p third for x cold 52 on b", "heatFor = 60");
        run(12, "", "heatFor = -1", "trouble = 1");
    }

    // ---- promises 13 to 17

    private static void packed() {
        run(13, STATION, "packed = 5", "sit 3 1 = 1", "packed = 5", "trouble = 0");
        run(13, TIGHT, "packed = 2");
        run(13, EMPTY, "packed = 0", "trouble = 0");
        run(13, "", "packed = -1", "trouble = 1");
        // ladies beside others are counted here
        run(13, BENCH + ";person p lady for x cold 12 on b;person q third for x cold 12 on b", "content = 2", "packed = 2",
            "packedAt 0 = 0", "packedAt 1 = 0");
        run(13, BENCH + ";person p third for x cold 13", "packed = 0", "packedAt 0 = -2");
        // a chain: a must give way to b, b to c, each to a bench further off
        String chain = "room wide 9 tall 1 stove 0 0 heat 40 stock 0;bench i open at 1 0 seats 1 rent 0;"
            + "bench j open at 2 0 seats 1 rent 0;bench k open at 3 0 seats 1 rent 0;person a third for x cold 28;"
            + "person b third for x cold 32;person c third for x cold 36";
        run(13, chain, "packed = 3", "packedAt 0 = 2", "packedAt 1 = 1", "packedAt 2 = 0", "packedWithout 0 = 2");

        run(14, STATION, "packedAt 0 = 0", "packedAt 1 = 2", "packedAt 2 = 1", "packedAt 3 = 0", "packedAt 4 = 3",
            "trouble = 0", "packedAt 5 = -1", "trouble = 1", "packedAt 0 = 0", "packedAt -1 = -1", "trouble = 1");
        run(14, TIGHT, "packedAt 0 = 1", "packedAt 1 = 0", "packedAt 2 = -2", "trouble = 0");
        // of like rows the first, though it is dearer; nobody stands who needn't
        run(14, BENCH + ";bench c open at 2 1 seats 2 rent 1;person p third for x cold 0;person q third for x cold 0;"
            + "person r third for x cold 0", "packedAt 0 = 0", "packedAt 1 = 0", "packedAt 2 = 1");
        // one who could sit only where earlier ones do stands
        run(14, BARE + ";bench b open at 1 0 seats 1 rent 1;person p third for x cold 0;person q third for x cold 0",
            "packedAt 0 = 0", "packedAt 1 = -2");
        run(14, EMPTY, "packedAt 0 = -1", "trouble = 1");

        run(15, STATION, "cheapest = 23", "trouble = 0");
        run(15, TIGHT, "cheapest = 11");
        run(15, BENCH + ";bench c open at 2 1 seats 1 rent 1;person p third for x cold 0;person q third for x cold 0",
            "cheapest = 5");
        // the cheap bench isn't taken by one who can be elsewhere: most sit first
        run(15, BARE + ";bench b open at 1 0 seats 1 rent 30;bench c island at 2 0 seats 1 rent 7;"
            + "person p lady for x cold 0;person q third for x cold 0", "cheapest = 37", "packed = 2");
        run(15, BARE + ";bench b open at 1 0 seats 2 rent 30;bench c island at 2 0 seats 2 rent 7;"
            + "bench d upper at 0 1 seats 1 rent 0;person p lady for x cold 0;person q lady for x cold 0;"
            + "person r child for x cold 0", "cheapest = 14");
        run(15, EMPTY, "cheapest = 0", "trouble = 0");
        run(15, "", "cheapest = -1", "trouble = 1");

        run(16, STATION, "packedWithout 0 = 4", "packedWithout 4 = 4");
        run(16, TIGHT, "packedWithout 0 = 1", "packedWithout 1 = 2", "packedWithout 2 = 2", "trouble = 0",
            "packedWithout 3 = -1", "trouble = 1", "packedWithout 0 = 1", "packedWithout -1 = -1", "trouble = 1");
        run(16, "", "packedWithout 0 = -1", "trouble = 1");

        run(17, STATION, "bestSeat = -2", "trouble = 0");
        run(17, TIGHT, "bestSeat = 0", "packed = 2");
        run(17, BARE + ";bench b open at 1 0 seats 1 rent 1;bench c open at 0 1 seats 1 rent 1;"
            + "bench d island at 2 0 seats 1 rent 1;person p lady for x cold 16;person q lady for x cold 13;"
            + "person r child for x cold 12;person s child for x cold 12", "packed = 3", "bestSeat = 0");
        run(17, BARE + ";bench b upper at 1 0 seats 1 rent 1;bench c open at 0 1 seats 1 rent 1;"
            + "person p third for x cold 16;person q third for x cold 13", "packed = 1", "bestSeat = 1");
        run(17, EMPTY, "bestSeat = -2", "trouble = 0");
        run(17, "", "bestSeat = -1", "trouble = 1");
    }

    // ---- promises 18 to 21

    private static void coalAndCouples() {
        // 16, 12, 8 of 36
        run(18, ROW, "coal 0 36 = 16", "coal 1 36 = 12", "coal 2 36 = 8", "coal 0 10 = 5", "coal 1 10 = 3",
            "coal 2 10 = 2", "coal 0 1 = 1", "coal 1 1 = 0", "coal 2 1 = 0", "coal 0 2 = 1", "coal 1 2 = 1",
            "coal 2 2 = 0", "coal 0 0 = 0", "coal 0 999 = 444", "coal 1 999 = 333", "coal 2 999 = 222", "trouble = 0",
            "coal 0 1000 = -1", "trouble = 2", "coal 0 0 = 0", "coal 0 -1 = -1", "trouble = 2", "coal 3 0 = -1",
            "trouble = 1", "coal 0 0 = 0", "coal -1 0 = -1", "trouble = 1");
        // z moves to x: 32, 12, 0 of 44; then all alike where rests are alike
        run(18, ROW, "sit 2 0 = 1", "coal 0 44 = 32", "coal 1 44 = 12", "coal 2 44 = 0", "coal 0 10 = 7", "coal 1 10 = 3");
        run(18, BARE + ";bench b open at 1 0 seats 1 rent 1;bench c open at 0 1 seats 1 rent 1;"
            + "bench d open at 0 2 seats 1 rent 1;person p third for x cold 0 on c;person q third for x cold 0 on b",
            "coal 0 7 = 4", "coal 1 7 = 3", "coal 2 7 = 0", "coal 0 8 = 4");
        run(18, STATION, "coal 0 100 = 100", "coal 3 100 = 0", "stand 0 = 1", "stand 1 = 1", "coal 0 100 = 0",
            "coal 3 100 = 0", "trouble = 0");
        run(18, "", "coal 0 1000 = -1", "trouble = 1");

        String kin = TOWN + ";kin c d";
        run(19, TOWN, "couples = 2", "spouse 0 = 1", "spouse 1 = 0", "spouse 2 = 3", "spouse 3 = 2", "trouble = 0");
        run(19, kin, "couples = 2", "spouse 0 = 2", "spouse 1 = 3", "spouse 2 = 0", "spouse 3 = 1");
        run(19, kin + ";kin a c;kin b c", "couples = 1", "spouse 0 = 1", "spouse 2 = -2", "spouse 3 = -2");
        run(19, EMPTY, "couples = 0", "trouble = 0");
        run(19, "", "couples = -1", "trouble = 1");
        // three in a row by kin: a can wed b alone, c can wed b alone; the first row has a with b
        run(20, SOFA + ";person a third for x cold 0;person b third for x cold 0;person c third for x cold 0;kin a c",
            "couples = 1", "spouse 0 = 1", "spouse 1 = 0", "spouse 2 = -2");
        // a alone by need: b and c, not with a
        run(20, SOFA + ";person a third for x cold 0;person b third for y cold 0;person c first for y cold 0",
            "couples = 1", "spouse 0 = -2", "spouse 1 = 2", "spouse 2 = 1");
        run(20, kin, "spouse 4 = -2", "spouse 5 = -2", "trouble = 0", "spouse 6 = -1", "trouble = 1", "spouse 0 = 2",
            "spouse -1 = -1", "trouble = 1");
        run(21, kin, "mayMarry 0 = 14", "mayMarry 1 = 13", "mayMarry 2 = 3", "mayMarry 3 = 3", "mayMarry 4 = 0",
            "mayMarry 5 = 0", "trouble = 0", "mayMarry 6 = -1", "trouble = 1", "mayMarry 0 = 14", "mayMarry -1 = -1",
            "trouble = 1");
        run(21, "", "mayMarry 0 = -1", "trouble = 1");
    }

    // ---- promises 22 to 24

    private static void sandwiches() {
        run(22, EATERS, "fed = 1", "trouble = 0", "day = 15", "fed = 0", "size 9 = 2");
        run(22, STATION, "fed = 2");
        run(22, EMPTY, "fed = -2", "trouble = 0");
        run(22, "", "fed = -1", "trouble = 1");
        run(22, "room wide 2 tall 2 stove 0 0 heat 1 stock 200;bench b open at 1 1 seats 1 rent 1;person p lady for x cold 0",
            "fed = 200", "eats 0 99 = 99", "left 99 = 101", "day = 1", "fed = 199");
        run(23, EATERS, "eats 0 0 = 0", "eats 0 1 = 1", "eats 0 2 = 1", "eats 1 2 = 2", "eats 2 2 = 1", "eats 3 2 = 2",
            "eats 1 3 = 2", "eats 0 99 = 1", "trouble = 0", "eats 0 100 = -1", "trouble = 2", "eats 0 0 = 0",
            "eats 0 -1 = -1", "trouble = 2", "eats 4 0 = -1", "trouble = 1", "eats 0 0 = 0", "eats -1 0 = -1",
            "trouble = 1", "day = 15", "eats 0 5 = 0", "eats 1 1 = 1", "eats 3 5 = 1");
        // 5 for 4: on the second day the first child alone
        run(23, EATERS.replace("stock 6", "stock 5"), "eats 1 2 = 2", "eats 3 2 = 1", "eats 0 2 = 1");
        // 7 for 4: both children and the first other one
        run(23, EATERS.replace("stock 6", "stock 7"), "eats 0 2 = 2", "eats 2 2 = 1", "eats 3 2 = 2");
        run(24, EATERS, "left 0 = 6", "left 1 = 2", "left 2 = 0", "left 99 = 0", "trouble = 0", "left 100 = -1",
            "trouble = 2", "left 0 = 6", "left -1 = -1", "trouble = 2");
        run(24, EMPTY, "left 99 = 6");
        run(24, "", "left 0 = -1", "trouble = 1", "left 100 = -1", "trouble = 1");
    }

    // ---- promises 25 to 30

    private static void trains() {
        String six = BENCH + ";rumble 5;rumble 11";
        run(25, six, "trains = 3", "trouble = 0");
        run(25, BENCH, "trains = 77");
        run(25, six + ";quiet 7", "trains = 2");
        run(25, BENCH + ";quiet 0", "trains = 66");
        run(25, BENCH + ";rumble 0;rumble 1", "trains = 0", "trouble = 0", "trainAt 0 = -1", "trouble = 1", "comes 0 = 0",
            "surely 0 = -2", "listen = -2", "listenLeaves = -2", "trouble = 0");
        run(25, "", "trains = -1", "trouble = 1");
        run(26, six, "trainAt 0 = 201", "trainAt 1 = 302", "trainAt 2 = 605", "trouble = 0", "trainAt 3 = -1",
            "trouble = 1", "trainAt 0 = 201", "trainAt -1 = -1", "trouble = 1");
        run(26, six + ";quiet 7", "trainAt 0 = 302", "trainAt 1 = 605", "trainAt 2 = -1");
        run(26, BENCH, "trainAt 0 = 200", "trainAt 1 = 201", "trainAt 2 = 300", "trainAt 76 = 1211", "trainAt 77 = -1");
        run(26, "", "trainAt 0 = -1", "trouble = 1");
        run(27, six, "comes 5 = 3", "comes 7 = 1", "comes 8 = 1", "comes 6 = 0", "comes 99 = 1", "comes 98 = 1",
            "trouble = 0", "comes 100 = -1", "trouble = 2", "comes 0 = 0", "comes -1 = -1", "trouble = 2");
        run(27, "", "comes 0 = -1", "trouble = 1", "comes 100 = -1", "trouble = 1");
        run(28, six, "surely 0 = 5", "surely 5 = 5", "surely 6 = 11", "surely 95 = 95", "surely 96 = -2", "trouble = 0",
            "surely 99 = -2", "surely 100 = -1", "trouble = 2", "surely 0 = 5", "surely -1 = -1", "trouble = 2");
        run(28, BENCH + ";rumble 99", "surely 0 = 99", "surely 99 = 99");
        run(28, "", "surely 0 = -1", "trouble = 1");
        // at 1 the train of 201 alone comes: one or two are left
        run(29, six, "listen = 1", "listenLeaves = 2", "trouble = 0");
        run(29, six + ";quiet 7", "listen = 2", "listenLeaves = 1");
        run(29, six + ";quiet 7;quiet 8", "trains = 1", "listen = 0", "listenLeaves = 1");
        run(29, BENCH, "listen = 0", "listenLeaves = 66");
        run(29, "", "listen = -1", "trouble = 1");
        run(30, "", "listenLeaves = -1", "trouble = 1");
    }

    // ---- promises 31 to 35

    private static void beliefs() {
        run(31, STATION, "drawn 0 = 3", "drawn 1 = -2", "drawn 2 = 0", "drawn 3 = 0", "preach 0 -1 = 1", "drawn 3 = -1",
            "trouble = 0", "drawn 5 = -1000", "trouble = 1", "drawn 0 = 3", "drawn -1 = -1000", "trouble = 1");
        run(31, "", "drawn 0 = -1000", "trouble = 1");
        run(32, STATION, "believers 0 = 2", "believers 1 = 3", "believers 2 = 11", "believers 3 = 27", "believers 20 = 27",
            "trouble = 0", "believers 21 = -1", "trouble = 2", "believers 0 = 2", "believers -1 = -1", "trouble = 2",
            "person 0 4 = 0");
        run(32, QUARREL, "believers 0 = 1", "believers 1 = 2", "believers 2 = 1", "believers 19 = 2", "believers 20 = 1");
        run(32, "", "believers 0 = -1", "trouble = 1", "believers 21 = -1", "trouble = 1");
        // alike weights on both sides: as it is
        String torn = SOFA + ";person a third for x cold 0;person b child for x cold 0;person c child for x cold 0;"
            + "heeds a b weight 4;heeds a c weight 4;believes b;denies c";
        run(32, torn, "drawn 0 = 0", "believers 5 = 2", "preach 0 1 = 1", "believers 5 = 3", "preach 0 -1 = 1",
            "believers 5 = 2", "preach 1 0 = 1", "drawn 0 = -4", "preach 0 1 = 1", "believers 1 = 0");
        // a lady who believes stays so, one who denies doesn't; a first one who denies stays so, one who believes doesn't
        String firm = BENCH + ";person l lady for x cold 0;person f first for x cold 0;person n third for x cold 0;"
            + "person y third for x cold 0;heeds l n weight 1;heeds f y weight 1;denies n;believes y";
        run(32, firm, "believers 1 = 10", "preach 0 1 = 1", "believers 1 = 11", "preach 1 -1 = 1", "believers 1 = 9",
            "preach 3 -1 = 1", "preach 1 1 = 1", "believers 1 = 1", "preach 0 -1 = 1", "preach 2 1 = 1", "believers 1 = 5");

        run(33, STATION, "settled = 3", "round = 1", "settled = 2", "trouble = 0");
        run(33, QUARREL, "settled = -2", "trouble = 0", "preach 1 1 = 1", "settled = 0");
        run(33, EMPTY, "settled = 0");
        run(33, "", "settled = -1", "trouble = 1");
        // cy, whom bea heeds, heeds nobody: he must be made to; the others follow
        run(34, STATION, "won = 4", "preach 2 1 = 1", "won = 0", "preach 1 0 = 1", "won = 0", "trouble = 0");
        run(34, QUARREL, "won = 2", "preach 0 0 = 1", "won = 2", "preach 1 0 = 1", "won = 1");
        run(34, TOWN, "won = 63");
        run(34, EMPTY, "won = 0", "trouble = 0");
        run(34, "", "won = -1", "trouble = 1");
        // both ladies would do, and have less bits, but c alone is fewer
        run(34, SOFA + ";person a lady for x cold 0;person b lady for x cold 0;person c third for x cold 0;"
            + "heeds c a weight 1;heeds c b weight 1;heeds a c weight 1;heeds b c weight 1;denies a;denies b;denies c",
            "won = 4", "prophet = 2", "preach 2 0 = 1", "won = 4", "preach 0 0 = 1", "preach 1 0 = 1", "won = 1",
            "prophet = 0");
        run(35, STATION, "prophet = 2", "preach 2 1 = 1", "prophet = 0", "trouble = 0");
        run(35, QUARREL, "prophet = 1");
        run(35, TOWN, "prophet = 0");
        run(35, SOFA + ";person a third for x cold 0;person b third for x cold 0;heeds a b weight 1", "prophet = 1");
        run(35, EMPTY, "prophet = -2", "trouble = 0");
        run(35, "", "prophet = -1", "trouble = 1");
    }

    // ---- promises 36 to 38

    private static void priests() {
        run(36, EMPTY, "shout 10 3 2 0 = 4", "shout 10 3 2 1 = -4", "shout 10 2 3 0 = -4", "shout 10 2 3 1 = 4",
            "shout 9 2 2 0 = 0", "shout 9 2 2 1 = 0", "shout 99 0 0 0 = 49", "shout 99 6 5 0 = 87", "shout 0 6 6 1 = -12",
            "shout 1 0 0 0 = 0", "trouble = 0", "shout 100 0 0 0 = -100", "trouble = 2", "shout 0 0 0 0 = 0",
            "shout -1 0 0 0 = -100", "trouble = 2", "shout 0 7 0 0 = -100", "shout 0 0 7 0 = -100", "shout 0 -1 0 0 = -100",
            "shout 0 0 -1 0 = -100", "trouble = 2");
        run(36, "", "shout 0 0 0 0 = -100", "trouble = 1", "shout 100 0 0 0 = -100", "trouble = 1");
        // for few nobody shouts; for 4 one has 2 by 0 and by 1 alike, and none by shouting against 1: 0 0, 0 1, 1 0, 1 1
        run(37, EMPTY, "rests 0 = 1", "rest 0 = 0", "rests 1 = 1", "rest 1 = 0", "rests 2 = 1", "rest 2 = 0");
        run(37, EMPTY, "rests 4 = 4", "rest 4 = 0", "trouble = 0");
        // for 10: 0 0 has 5, by 1 one has 8; no pair rests; for 99 both shout 6: 49 less 12 is more than 0
        run(38, EMPTY, "rests 10 = 0", "rest 10 = -2", "rests 99 = 1", "rest 99 = 66", "trouble = 0", "rest 100 = -1",
            "trouble = 2", "rest 99 = 66", "rest -1 = -1", "trouble = 2", "rests 99 = 1", "rests 100 = -1", "trouble = 2",
            "rests 99 = 1", "rests -1 = -1", "trouble = 2");
        run(38, "", "rest 0 = -1", "trouble = 1", "rests 0 = -1", "trouble = 1", "rest 100 = -1", "trouble = 1");
    }

    // ---- promises 39 to 41

    private static void years() {
        // SEED 65,536 stays so: of three people the second (65,536 mod 3 is 1), of two benches the first
        run(39, TIGHT, "years 65536 0 = 0", "years 65536 1 = 1", "years 65536 90 = 1", "trouble = 0");
        run(40, TIGHT, "yearsAt 1 65536 0 = -2", "yearsAt 1 65536 1 = 0", "yearsAt 0 65536 90 = -2",
            "yearsAt 1 65536 90 = 0", "person 1 2 = -2");
        run(41, TIGHT, "happy 1 65536 90 = 90", "happy 0 65536 90 = 0", "happy 1 65536 0 = 0");
        // SEED 0 draws 74 (z), 5,624 (a), 28,652 (z), 51,790 (a), 17,641 (y), 12,409 (b: no island for him)
        run(39, TIGHT, "years 0 1 = 1", "years 0 2 = 1", "years 0 3 = 1");
        run(40, TIGHT, "yearsAt 2 0 1 = 0", "yearsAt 2 0 2 = 0", "yearsAt 1 0 3 = -2", "yearsAt 2 0 3 = 0");
        run(41, TIGHT, "happy 2 0 3 = 3", "happy 1 0 3 = 0");
        // y sits on the only seat of a: z finds none in the first year, and stands
        run(40, TIGHT, "sit 1 0 = 1", "yearsAt 2 0 1 = -2", "yearsAt 1 0 2 = 0", "yearsAt 1 0 3 = -2", "years 0 2 = 1",
            "years 0 3 = 0", "happy 1 0 3 = 2", "size 11 = 1");
        // a lady beside a third one isn't content then
        run(39, BENCH + ";person p third for x cold 60 on b;person q lady for x cold 0", "years 65536 1 = 0",
            "sit 1 0 = 1", "years 65536 1 = 0", "stand 0 = 1", "years 65536 0 = 1", "years 65536 1 = 0",
            "happy 1 65536 5 = 0");
        run(39, STATION, "years 0 0 = 2", "trouble = 0", "years 65537 0 = -1", "trouble = 2", "years 0 0 = 2",
            "years -1 0 = -1", "trouble = 2", "years 0 0 = 2", "years 0 91 = -1", "trouble = 2", "years 0 0 = 2",
            "years 0 -1 = -1", "trouble = 2");
        run(39, BENCH + ";person p child for x cold 12", "years 0 0 = 0", "years 0 1 = 1", "years 7 90 = 1",
            "happy 0 7 90 = 90", "yearsAt 0 7 1 = 0");
        run(39, EMPTY, "years 0 0 = -1", "trouble = 1", "years 0 91 = -1", "trouble = 1");
        run(39, "", "years 0 0 = -1", "trouble = 1");
        run(40, STATION, "yearsAt 5 0 0 = -1", "trouble = 1", "yearsAt 0 0 0 = 0", "trouble = 0", "yearsAt -1 0 91 = -1",
            "trouble = 1", "yearsAt 0 65537 0 = -1", "trouble = 2", "yearsAt 0 0 0 = 0", "yearsAt 0 0 91 = -1",
            "trouble = 2", "yearsAt 0 -1 0 = -1", "yearsAt 0 0 -1 = -1", "trouble = 2");
        run(41, STATION, "happy 5 0 0 = -1", "trouble = 1", "happy 0 0 0 = 0", "trouble = 0", "happy -1 0 91 = -1",
            "trouble = 1", "happy 0 65537 0 = -1", "trouble = 2", "happy 0 0 0 = 0", "happy 0 0 91 = -1", "trouble = 2",
            "happy 0 -1 0 = -1", "happy 0 0 -1 = -1", "trouble = 2");
        run(41, "", "happy 0 0 0 = -1", "trouble = 1");
    }

    // ---- promises 42 to 46

    private static void acts() {
        run(42, STATION, "sit 3 1 = 1", "trouble = 0", "person 3 2 = 1", "bench 1 6 = 8", "sit 2 1 = 0", "trouble = 3",
            "sit 3 1 = 0", "trouble = 5", "sit 2 2 = 0", "trouble = 5", "sit 0 1 = 0", "trouble = 5", "sit 5 0 = 0",
            "trouble = 1", "sit 0 0 = 0", "trouble = 5", "sit 0 4 = 0", "trouble = 1", "sit 3 2 = 1", "bench 1 6 = 0",
            "sit 2 1 = 1", "sit -1 0 = 0", "trouble = 1", "sit 3 0 = 0", "trouble = 3", "sit 0 -1 = 0", "trouble = 1",
            "size 11 = 3");
        run(42, "", "sit 0 0 = 0", "trouble = 1");
        run(43, STATION, "stand 0 = 1", "trouble = 0", "person 0 2 = -2", "bench 0 6 = 2", "stand 0 = 0", "trouble = 5",
            "stand 2 = 0", "trouble = 5", "stand 5 = 0", "trouble = 1", "stand 1 = 1", "stand -1 = 0", "trouble = 1",
            "size 11 = 2");
        run(43, "", "stand 0 = 0", "trouble = 1");
        run(44, STATION, "preach 0 1 = 1", "trouble = 0", "person 0 4 = 1", "preach 0 1 = 0", "trouble = 5",
            "preach 0 -1 = 1", "person 0 4 = -1", "preach 0 0 = 1", "person 0 4 = 0", "preach 0 0 = 0", "trouble = 5",
            "preach 0 2 = 0", "trouble = 2", "preach 0 1 = 1", "preach 0 -2 = 0", "trouble = 2", "preach 5 1 = 0",
            "trouble = 1", "preach 5 2 = 0", "trouble = 1", "preach -1 1 = 0", "preach 1 -1 = 1", "person 1 4 = -1",
            "size 11 = 5");
        run(44, "", "preach 0 5 = 0", "trouble = 1");
        run(45, STATION, "round = 1", "trouble = 0", "person 0 4 = 1", "round = 8", "round = 16", "round = 0", "size 11 = 4",
            "content = 17", "size 10 = 0");
        run(45, QUARREL, "round = 3", "person 0 4 = -1", "person 1 4 = 1", "round = 3", "person 0 4 = 1");
        run(45, EMPTY, "round = 0", "trouble = 0", "size 11 = 1");
        run(45, "", "round = -1", "trouble = 1");
        run(46, EATERS, "day = 15", "trouble = 0", "size 9 = 2", "size 10 = 1", "day = 10", "size 9 = 0", "day = 0",
            "size 10 = 3", "size 11 = 3");
        run(46, EATERS.replace("stock 6", "stock 5"), "day = 15", "day = 2", "day = 0");
        run(46, EATERS.replace("stock 6", "stock 3"), "day = 11", "size 9 = 0");
        BenchColony x = colonyOf(EMPTY);
        for (int i = 1; i <= 99; i++) {
            steps(46, x, "day = 0", "size 10 = " + i);
        }
        steps(46, x, "trouble = 0", "day = -1", "trouble = 3", "size 10 = 99", "size 9 = 6", "size 11 = 16", "undo = 1",
            "size 10 = 98", "day = 0", "day = -1");
        run(46, "", "day = -1", "trouble = 1");
    }

    // ---- promises 47 to 49

    private static void undoAndImages() {
        run(47, STATION, "undo = 0", "trouble = 6", "sit 3 1 = 1", "stand 0 = 1", "preach 3 1 = 1", "round = 17", "day = 31",
            "size 11 = 5", "undo = 1", "trouble = 0", "size 9 = 10", "size 10 = 0", "size 11 = 4", "person 4 4 = 1",
            "undo = 1", "person 4 4 = 0", "person 3 4 = 1", "undo = 1", "person 3 4 = 0", "person 0 2 = -2", "undo = 1",
            "person 0 2 = 0", "person 3 2 = 1", "undo = 1", "person 3 2 = -2", "size 11 = 0", "undo = 0", "trouble = 6");
        run(47, "", "undo = 0", "trouble = 6");
        // refused calls and questions are no ACTS
        run(47, STATION, "sit 3 1 = 1", "sit 3 1 = 0", "stand 2 = 0", "preach 0 0 = 0", "years 5 5 = 1", "image = 0",
            "size 11 = 1", "undo = 1", "person 3 2 = -2", "undo = 0");
        BenchColony x = colonyOf(STATION);
        for (int i = 0; i < 17; i++) {
            steps(47, x, "preach 4 " + (i % 2 == 0 ? 1 : -1) + " = 1", "size 11 = " + Math.min(i + 1, 16));
        }
        for (int i = 15; i >= 0; i--) {
            steps(47, x, "undo = 1", "size 11 = " + i, "person 4 4 = " + (i % 2 == 0 ? 1 : -1));
        }
        steps(47, x, "undo = 0", "trouble = 6", "person 4 4 = 1", "preach 4 0 = 1", "size 11 = 1", "undo = 1",
            "person 4 4 = 1");

        run(48, STATION, "image = 0", "trouble = 0", "size 12 = 1", "image = 1", "image = 2", "size 12 = 3", "image = -1",
            "trouble = 3", "size 12 = 3", "size 11 = 0");
        run(48, "", "image = -1", "trouble = 1");
        run(49, STATION, "back 0 = 0", "trouble = 1", "sit 3 1 = 1", "image = 0", "day = 31", "round = 1", "stand 0 = 1",
            "preach 2 0 = 1", "image = 1", "back 0 = 1", "trouble = 0", "size 11 = 0", "size 12 = 2", "size 9 = 10",
            "size 10 = 0", "person 0 2 = 0", "person 3 2 = 1", "person 0 4 = 0", "person 2 4 = -1", "undo = 0",
            "trouble = 6", "stand 3 = 1", "back 1 = 1", "size 9 = 5", "size 10 = 1", "person 0 2 = -2", "person 0 4 = 1",
            "person 2 4 = 0", "person 3 2 = 1", "back 0 = 1", "person 3 2 = 1", "back 2 = 0", "trouble = 1", "back 1 = 1",
            "back -1 = 0", "trouble = 1", "image = 2", "image = -1");
        run(49, "", "back 0 = 0", "trouble = 1");
    }

    // ---- promises 50 to 52

    private static void whatIsTold() {
        run(50, STATION, "led 0 = 2", "led 1 = 3", "led 2 = throws", "led -1 = throws", "stand 1 = 1", "led 0 = 1",
            "led 1 = 2", "led 2 = 3", "led 3 = throws");
        run(50, ROW, "led 0 = throws", "stand 2 = 1", "led 0 = 2", "led 1 = throws");
        run(50, TIGHT, "led 0 = 0", "led 1 = 1", "led 2 = 2", "sit 0 1 = 1", "led 0 = 1", "led 2 = throws");
        run(50, EMPTY, "led 0 = throws");
        run(50, "", "led 0 = throws", "led -2147483648 = throws");
        run(51, STATION, "size 0 = 6", "size 1 = 4", "size 2 = 30", "size 3 = 4", "size 4 = 5", "size 5 = 1", "size 6 = 4",
            "size 7 = 2", "size 8 = 1", "size 9 = 10", "size 10 = 0", "size 11 = 0", "size 12 = 0", "size 13 = 0",
            "size 14 = -1", "size -1 = -1", "day = 31", "image = 0", "feed 1 2 3 4 5 = 20", "size 9 = 5", "size 10 = 1",
            "size 11 = 1", "size 12 = 1", "size 13 = 20");
        run(51, "", "size 14 = -1", "size -1 = -1", "size 2147483647 = -1");
        check("NONE", BenchColony.NONE, -1);
    }

    /** The calls of which no number is told leave TROUBLE as it is; all others set it. */
    private static void trouble() {
        run(52, STATION, "trouble = 0", "undo = 0", "trouble = 6", "trouble = 6", "feed 1 2 3 4 5 = 20", "size 99 = -1",
            "led 0 = 2", "led 9 = throws", "fault = 0", "where = -1", "trouble = 6");
        String[] calls = {"bench 0 0 = 0", "person 0 0 = 0", "may 0 0 = 1", "content = 17", "warmest 0 = 3", "rents = 11",
            "heatFor = 24", "packed = 5", "packedAt 0 = 0", "cheapest = 23", "packedWithout 0 = 4", "bestSeat = -2",
            "coal 0 0 = 0", "couples = 1", "spouse 0 = 1", "mayMarry 0 = 2", "fed = 2", "eats 0 0 = 0", "left 0 = 10",
            "trains = 1", "trainAt 0 = 907", "comes 0 = 0", "surely 99 = -2", "listen = 0", "listenLeaves = 1",
            "drawn 0 = 3", "believers 0 = 2", "settled = 3", "won = 4", "prophet = 2", "shout 0 0 0 0 = 0", "rests 0 = 1",
            "rest 10 = -2", "years 0 0 = 2", "yearsAt 2 0 0 = -2", "happy 0 0 0 = 0", "stand 0 = 1", "sit 0 0 = 1",
            "preach 0 1 = 1", "round = 8", "day = 31", "undo = 1", "image = 0", "back 0 = 1"};
        BenchColony x = colonyOf(STATION);
        for (String call : calls) {
            steps(52, x, "bench 9 9 = -1", "trouble = 1", call, "trouble = 0");
        }
    }

    /** Of several reasons the one that is told first. */
    private static void refusedInOrder() {
        run(18, STATION, "coal 9 1000 = -1", "trouble = 1");
        run(23, STATION, "eats 9 100 = -1", "trouble = 1");
        run(40, STATION, "yearsAt 9 70000 91 = -1", "trouble = 1");
        run(42, STATION, "sit 3 1 = 1", "sit 0 1 = 0", "trouble = 5", "sit 3 1 = 0", "trouble = 5");
        run(44, STATION, "preach 9 9 = 0", "trouble = 1");
    }
}
