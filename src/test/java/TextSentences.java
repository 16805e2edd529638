/** Terms I, the text of a ROOM, and promises 1 to 5. */
final class TextSentences {
    private static final String BARE = PromiseTests.BARE;
    private static final String BENCH = PromiseTests.BENCH;
    private static final String TWO = BENCH + ";person p third for x cold 0;person q lady for x cold 0";
    private static final String FIVE_BENCHES = BARE + ";bench a open at 0 1 seats 1 rent 1;bench b open at 0 2 seats 1 rent 1;"
        + "bench c open at 1 0 seats 1 rent 1;bench d open at 1 1 seats 1 rent 1;bench e open at 1 2 seats 1 rent 1";
    private static final String SIX_PEOPLE = BENCH + ";person p third for x cold 0;person q third for x cold 0;"
        + "person r third for x cold 0;person s third for x cold 0;person t third for x cold 0;person u third for x cold 0";
    private static final String SEVEN_PEOPLE = SIX_PEOPLE + ";person v third for x cold 0";
    private static final String FIVE_KIN = SEVEN_PEOPLE + ";kin p q;kin p r;kin p s;kin p t;kin p u";
    private static final String EIGHT_HEEDS = SEVEN_PEOPLE + ";heeds p q weight 1;heeds p r weight 1;heeds p s weight 1;"
        + "heeds p t weight 1;heeds p u weight 1;heeds p v weight 1;heeds q p weight 1;heeds q r weight 1";
    private static final String SEVEN_HOURS = BENCH + ";rumble 1;quiet 2;rumble 3;quiet 4;rumble 5;quiet 6;rumble 7";
    private static final String[] LINE_WORDS = {"room", "bench", "person", "kin", "heeds", "believes", "denies", "rumble",
        "quiet"};

    private final Sentences s;

    TextSentences(Sentences sentences) {
        s = sentences;
    }

    void tell() {
        tapeAndTokens();
        roomLine();
        benchLine();
        personLine();
        kinAndHeeds();
        beliefsAndHours();
        names();
        faults();
        faultsInOrder();
        newObjectAndFeed();
        room();
        faultAndWhere();
    }

    private void of(String words) {
        s.of(Sentences.TERMS, words);
    }

    /** A text of exactly so many bytes, with blanks between its beginning and its end. */
    private static String stretched(String start, String end, int length) {
        return start + " ".repeat(length - start.length() - end.length()) + end;
    }

    private void tapeAndTokens() {
        of("I. THE TEXT of a ROOM (THE TAPE has 1,000 bytes");
        s.good(stretched(BENCH, ";rumble 7", 1000), stretched(BENCH, ";rumble 7", 999), stretched(BENCH, ";rumble 7", 1000));
        s.answers(stretched(BENCH, ";rumble 7", 1000), "size 7 = 1", "size 13 = 0");
        s.faulty(1, stretched(BENCH, "^#", 1001), stretched(BENCH, ";^", 1001), stretched(BENCH, ";rumble^", 1001));
        s.faulty(4, stretched(BENCH, ";rumble ^100", 1001));

        of("; blanks, 32, part TOKENS and mean nothing else");
        s.good("   " + BENCH.replace(" ", "   ").replace(";", "  ;  ") + "   ", " " + BENCH + " ");
        s.faulty(1, "^ro om wide 3", "room ^wi de 3", "room wide 1 ^2 tall 3");
        for (char other : new char[] {31, 33, 9, 10, 13, 0, 64, 95, 127, 128, 160, 255}) {
            s.faulty(1, "room^" + other + "wide 3", "^" + other + BENCH, BENCH + "^" + other);
        }

        of("; TOKENS: WORDS of 1 to 8 small letters that stand together");
        s.good(BARE + ";bench a open at 1 1 seats 1 rent 1", BARE + ";bench abcdefgh open at 1 1 seats 1 rent 1",
            BARE + ";bench abcdefg open at 1 1 seats 1 rent 1", BENCH + ";person zzzzzzzz child for z cold 0",
            BENCH + ";person z child for zzzzzzzz cold 0");
        s.faulty(1, BARE + ";bench ^abcdefghi open at 1 1 seats 1 rent 1", BENCH + ";person ^zzzzzzzzz child for x cold 0",
            BENCH + ";person z child for ^zzzzzzzzz cold 0", "^roomroomm wide 3", BARE + ";bench abcdefgh ^i open at 1 1",
            BENCH + ";believes ^bbbbbbbbbbbbbbbbbbbb");
        // the signs beside a and z, and great letters
        s.faulty(1, BARE + ";bench ^`", BARE + ";bench ^{", BARE + ";bench a^`", BARE + ";bench z^{", BARE + ";bench ^A",
            BARE + ";bench ^Z", BARE + ";bench a^A open", "^Room wide 3", "^rOom wide 3");
        s.good("room wide2tall2stove0 0heat60stock200;bench b upper at1 1seats3rent30");

        of(", WHOLES of 1 to 3 digits that do");
        s.good(BENCH + ";rumble 7", BENCH + ";rumble 07", BENCH + ";rumble 007", BENCH + ";rumble 000", BENCH + ";rumble 099");
        s.answers(BENCH + ";rumble 007;quiet 010", "size 7 = 1", "size 8 = 1", "comes 7 = 10", "comes 10 = 0");
        s.faulty(1, BENCH + ";rumble ^0007", BENCH + ";rumble ^1000", BENCH + ";rumble ^0000", BENCH + ";rumble ^9999999999",
            BENCH + ";rumble ^4294967296", BENCH + ";rumble 7 ^7");
        s.faulty(1, BENCH + ";rumble ^/", BENCH + ";rumble ^:", BENCH + ";rumble 0^/", BENCH + ";rumble 9^:",
            BENCH + ";rumble ^-1", BENCH + ";rumble ^+1", BENCH + ";rumble 1^.5");

        of(", single ones of ;): LINE {; LINE}. LINE, one of:");
        s.good(BENCH, BENCH + " ; rumble 7", BENCH + ";rumble 7;quiet 8");
        s.faulty(1, "^", " ^", "^;", "^;" + BENCH, BENCH + ";^", BENCH + "; ^", BENCH + ";^;rumble 7",
            BENCH + ";rumble 7;^;", BENCH + " ^rumble 7", BENCH + "^:rumble 7", BENCH + "^<rumble 7", BENCH + "^,rumble 7",
            BENCH + ";^7", BENCH + ";^zz", BENCH + ";^on", BENCH + ";^rumbles 7", BENCH + ";^rumbl 7");
    }

    private void roomLine() {
        of("room wide WHOLE tall WHOLE stove WHOLE WHOLE heat WHOLE stock WHOLE");
        s.form("", "room wide 3 tall 4 stove 2 3 heat 9 stock 6", ";bench b open at 0 0 seats 1 rent 1");
        s.answers("room wide 3 tall 4 stove 2 3 heat 20 stock 6;bench b open at 0 0 seats 1 rent 1", "size 0 = 3",
            "size 1 = 4", "size 2 = 20", "size 9 = 6", "bench 0 4 = 0");
        of("(1 .. 9; 1 .. 9; ");
        s.wholes("room wide # tall 9 stove 0 0 heat 1 stock 0;bench b open at 0 1 seats 1 rent 0", 1, 9);
        s.wholes("room wide 9 tall # stove 0 0 heat 1 stock 0;bench b open at 1 0 seats 1 rent 0", 1, 9);
        of("a CELL: 0 to wide less 1, 0 to tall less 1; ");
        s.wholes("room wide 4 tall 3 stove # 0 heat 1 stock 0;bench b open at 0 1 seats 1 rent 0", 0, 3);
        s.wholes("room wide 4 tall 3 stove 0 # heat 1 stock 0;bench b open at 1 0 seats 1 rent 0", 0, 2);
        s.wholes("room wide 1 tall 2 stove # 0 heat 1 stock 0;bench b open at 0 1 seats 1 rent 0", 0, 0);
        s.wholes("room wide 2 tall 1 stove 0 # heat 1 stock 0;bench b open at 1 0 seats 1 rent 0", 0, 0);
        s.wholes("room wide 9 tall 9 stove # 8 heat 1 stock 0;bench b open at 0 0 seats 1 rent 0", 0, 8);
        s.wholes("room wide 9 tall 9 stove 8 # heat 1 stock 0;bench b open at 0 0 seats 1 rent 0", 0, 8);
        of("1 .. 60; ");
        s.wholes("room wide 2 tall 1 stove 0 0 heat # stock 0;bench b open at 1 0 seats 1 rent 0", 1, 60);
        of("0 .. 200 sandwiches)");
        s.wholes("room wide 2 tall 1 stove 0 0 heat 1 stock #;bench b open at 1 0 seats 1 rent 0", 0, 200);
        s.answers("room wide 2 tall 1 stove 0 0 heat 60 stock 200;bench b open at 1 0 seats 1 rent 0", "size 0 = 2",
            "size 1 = 1", "size 2 = 60", "size 9 = 200", "left 0 = 200");
        of(", ahead of all others");
        s.good(BENCH);
        for (String word : LINE_WORDS) {
            if (!word.equals("room")) {
                s.faulty(6, "^" + word + ";" + BENCH);
            }
        }
        s.faulty(6, "^bench b open at 1 1 seats 1 rent 1;" + BARE);
    }

    private void benchLine() {
        of("bench NAME SORT at WHOLE WHOLE seats WHOLE rent WHOLE");
        s.form(BARE + ";", "bench b open at 1 2 seats 3 rent 4", ";rumble 7");
        s.answers(BARE + ";bench b open at 1 2 seats 3 rent 4", "bench 0 0 = 0", "bench 0 1 = 21", "bench 0 2 = 3",
            "bench 0 3 = 4");
        of("(SORT: open, upper, or island");
        s.good(BARE + ";bench b open at 1 1 seats 1 rent 1", BARE + ";bench b upper at 1 1 seats 1 rent 1",
            BARE + ";bench b island at 1 1 seats 1 rent 1");
        s.faulty(1, BARE + ";bench b ^lower at 1 1", BARE + ";bench b ^ope at 1 1", BARE + ";bench b ^opens at 1 1",
            BARE + ";bench b ^third at 1 1", BARE + ";bench b ^at 1 1", BARE + ";bench b ^islands at 1 1");
        of("; a CELL without stove or bench");
        s.wholes("room wide 4 tall 3 stove 3 2 heat 1 stock 0;bench b open at # 0 seats 1 rent 0", 0, 3);
        s.wholes("room wide 4 tall 3 stove 3 2 heat 1 stock 0;bench b open at 0 # seats 1 rent 0", 0, 2);
        s.wholes("room wide 1 tall 2 stove 0 0 heat 1 stock 0;bench b open at # 1 seats 1 rent 0", 0, 0);
        s.wholes("room wide 9 tall 9 stove 4 4 heat 1 stock 0;bench b open at # 8 seats 1 rent 0", 0, 8);
        s.wholes("room wide 9 tall 9 stove 4 4 heat 1 stock 0;bench b open at 8 # seats 1 rent 0", 0, 8);
        // a room that is full
        s.faulty(7, "room wide 1 tall 1 stove 0 0 heat 1 stock 0;bench b open at 0 ^0 seats 1 rent 0",
            "room wide 1 tall 2 stove 0 0 heat 1 stock 0;bench b open at 0 1 seats 1 rent 0;bench c open at 0 ^0",
            "room wide 1 tall 2 stove 0 0 heat 1 stock 0;bench b open at 0 1 seats 1 rent 0;bench c open at 0 ^1",
            "room wide 1 tall 2 stove 0 1 heat 1 stock 0;bench b open at 0 0 seats 1 rent 0;bench c open at 0 ^1");
        of("; 1 .. 3");
        s.wholes(BARE + ";bench b open at 1 1 seats # rent 0", 1, 3);
        of("; 0 .. 30");
        s.wholes(BARE + ";bench b open at 1 1 seats 1 rent #", 0, 30);
        of("; up to 6)");
        s.good(FIVE_BENCHES, FIVE_BENCHES + ";bench f open at 2 0 seats 1 rent 1");
        s.faulty(5, FIVE_BENCHES + ";bench f open at 2 0 seats 1 rent 1;^bench g open at 2 1 seats 1 rent 1",
            FIVE_BENCHES + ";bench f open at 2 0 seats 1 rent 1;rumble 7;^bench g open at 2 1 seats 1 rent 1");
    }

    private void personLine() {
        of("person NAME KIND for WORD cold WHOLE, or person NAME KIND for WORD cold WHOLE on BENCH");
        s.form(BENCH + ";", "person p third for x cold 5", ";rumble 7");
        s.faulty(1, BENCH + ";person p third for rome cold 5 on^", BENCH + ";person p third for rome cold 5 on ^;",
            BENCH + ";person p third for rome cold 5 on ^5", BENCH + ";person p third for rome cold 5 ^b",
            BENCH + ";person p third for rome cold 5 on b ^b", BENCH + ";person p third for rome cold 5 on b ^on b",
            BENCH + ";person p third for rome cold 5 ^at b", BENCH + ";person p third for rome ^on b");
        s.answers(BENCH + ";person p third for rome cold 5;person q child for bonn cold 6 on b", "person 0 2 = -2",
            "person 1 2 = 0", "person 0 1 = 5", "person 1 1 = 6", "person 0 0 = 0", "person 1 0 = 3");
        of("(KIND: third, first, lady, or child");
        s.good(BENCH + ";person p third for x cold 0", BENCH + ";person p first for x cold 0",
            BENCH + ";person p lady for x cold 0", BENCH + ";person p child for x cold 0");
        s.faulty(1, BENCH + ";person p ^man for x cold 0", BENCH + ";person p ^ladys for x cold 0",
            BENCH + ";person p ^open for x cold 0", BENCH + ";person p ^for x cold 0", BENCH + ";person p ^chil for x cold 0");
        of("; any WORD, a town");
        for (String word : LINE_WORDS) {
            s.good(BENCH + ";person p third for " + word + " cold 0");
        }
        s.good(BENCH + ";person p third for on cold 0 on b", BENCH + ";person p third for p cold 0",
            BENCH + ";person p third for b cold 0", BENCH + ";person p third for cold cold 0");
        s.faulty(1, BENCH + ";person p third for ^7 cold 0", BENCH + ";person p third for ^; cold 0",
            BENCH + ";person p third for cold ^0");
        of("; 0 .. 60");
        s.wholes(BENCH + ";person p third for x cold #", 0, 60);
        s.wholes(BENCH + ";person p third for x cold # on b", 0, 60);
        of("; who may sit there, a free seat");
        String[] kinds = {"third", "first", "lady", "child"};
        String[] sorts = {"open", "upper", "island"};
        String[] may = {"100", "110", "101", "111"};
        for (int kind = 0; kind < 4; kind++) {
            for (int sort = 0; sort < 3; sort++) {
                String text = BARE + ";bench b " + sorts[sort] + " at 1 1 seats 1 rent 1;person p " + kinds[kind]
                    + " for x cold 0 on ";
                if (may[kind].charAt(sort) == '1') {
                    s.good(text + "b");
                } else {
                    s.faulty(7, text + "^b");
                }
            }
        }
        for (int seats = 1; seats <= 3; seats++) {
            StringBuilder text = new StringBuilder(BARE + ";bench b open at 1 1 seats " + seats + " rent 1");
            for (int i = 0; i < seats; i++) {
                text.append(";person ").append((char) ('p' + i)).append(" child for x cold 60 on b");
            }
            s.good(text.toString(), text + ";person z child for x cold 0");
            s.faulty(7, text + ";person z child for x cold 0 on ^b");
        }
        of("; up to 7)");
        s.good(SIX_PEOPLE, SEVEN_PEOPLE);
        s.faulty(5, SEVEN_PEOPLE + ";^person w third for x cold 0", SEVEN_PEOPLE + ";rumble 7;^person w third for x cold 0");
    }

    private void kinAndHeeds() {
        of("kin PERSON PERSON");
        s.form(TWO + ";", "kin p q", ";rumble 7");
        of("(unlike; once in whatever order");
        s.faulty(3, TWO + ";kin p ^p", TWO + ";kin p q;kin p ^q", TWO + ";kin p q;kin q ^p", TWO + ";kin p q;kin q ^q");
        of("; up to 6)");
        s.good(FIVE_KIN, FIVE_KIN + ";kin p v");
        s.answers(FIVE_KIN + ";kin p v", "size 5 = 6", "mayMarry 0 = 0");
        s.faulty(5, FIVE_KIN + ";kin p v;^kin q r", FIVE_KIN + ";kin q r;^kin p v");
        of(", or heeds PERSON PERSON weight WHOLE");
        s.form(TWO + ";", "heeds p q weight 5", ";rumble 7");
        of("(unlike; each two in that order once");
        s.faulty(3, TWO + ";heeds p ^p weight 1", TWO + ";heeds q ^q weight 1",
            TWO + ";heeds p q weight 1;heeds p ^q weight 1",
            TWO + ";heeds p q weight 1;heeds q p weight 1;heeds q ^p weight 1");
        s.good(TWO + ";heeds p q weight 1;heeds q p weight 1", TWO + ";heeds p q weight 1;kin p q");
        of("; 1 .. 9");
        s.wholes(TWO + ";heeds p q weight #", 1, 9);
        of("; up to 9)");
        s.good(EIGHT_HEEDS, EIGHT_HEEDS + ";heeds q s weight 1");
        s.answers(EIGHT_HEEDS + ";heeds q s weight 1", "size 6 = 9");
        s.faulty(5, EIGHT_HEEDS + ";heeds q s weight 1;^heeds q t weight 1",
            EIGHT_HEEDS + ";heeds q s weight 1;kin p q;^heeds q t weight 1");
        s.good(FIVE_KIN + ";kin p v" + EIGHT_HEEDS.substring(SEVEN_PEOPLE.length()) + ";heeds q s weight 1");
    }

    private void beliefsAndHours() {
        of("believes PERSON, or denies PERSON");
        s.form(TWO + ";", "believes p", ";rumble 7");
        s.form(TWO + ";", "denies p", ";rumble 7");
        of("(once for each of both; else a person is unsure)");
        s.faulty(3, TWO + ";believes p;believes ^p", TWO + ";believes p;denies ^p", TWO + ";denies p;denies ^p",
            TWO + ";denies p;believes ^p", TWO + ";denies p;believes q;denies ^q");
        s.good(TWO + ";believes p;denies q", TWO + ";denies p;denies q");
        s.answers(SIX_PEOPLE + ";believes q;denies r", "person 0 4 = 0", "person 1 4 = 1", "person 2 4 = -1",
            "person 3 4 = 0");
        of("rumble WHOLE, or quiet WHOLE");
        s.form(BENCH + ";", "rumble 7", ";quiet 8");
        s.form(BENCH + ";", "quiet 7", ";rumble 8");
        of("(an hour, 0 .. 99");
        s.wholes(BENCH + ";rumble #", 0, 99);
        s.wholes(BENCH + ";quiet #", 0, 99);
        of(", each once of both");
        s.faulty(3, BENCH + ";rumble 7;rumble ^7", BENCH + ";rumble 7;quiet ^7", BENCH + ";quiet 7;rumble ^7",
            BENCH + ";quiet 7;quiet ^7", BENCH + ";quiet 7;rumble ^07", BENCH + ";quiet 0;quiet ^000",
            BENCH + ";rumble 99;quiet ^099");
        s.good(BENCH + ";rumble 7;rumble 8", BENCH + ";rumble 0;quiet 1", BENCH + ";quiet 98;rumble 99");
        of("; up to 8 of both)");
        s.good(SEVEN_HOURS, SEVEN_HOURS + ";quiet 8", SEVEN_HOURS + ";rumble 8");
        s.faulty(5, SEVEN_HOURS + ";quiet 8;^rumble 9", SEVEN_HOURS + ";quiet 8;^quiet 9", SEVEN_HOURS + ";rumble 8;^quiet 9");
        String rumbles = BENCH + ";rumble 1;rumble 2;rumble 3;rumble 4;rumble 5;rumble 6;rumble 7;rumble 8";
        s.good(rumbles, rumbles.replace("rumble", "quiet"));
        s.faulty(5, rumbles + ";^quiet 9", rumbles.replace("rumble", "quiet") + ";^rumble 9");
        s.answers(rumbles, "size 7 = 8", "size 8 = 0");
        s.answers(rumbles.replace("rumble", "quiet"), "size 7 = 0", "size 8 = 8");
    }

    private void names() {
        of("NAMES are WORDS but room, bench, person, kin, heeds, believes, denies, rumble, quiet, on");
        String kept = String.join(" ", LINE_WORDS) + " on";
        for (String word : kept.split(" ")) {
            s.faulty(1, BARE + ";bench ^" + word + " open at 1 1 seats 1 rent 1", BENCH + ";person ^" + word
                + " third for x cold 0", BENCH + ";person p third for x cold 0 on ^" + word, TWO + ";kin ^" + word + " q",
                TWO + ";kin p ^" + word, TWO + ";heeds ^" + word + " q weight 1", TWO + ";heeds p ^" + word + " weight 1",
                TWO + ";believes ^" + word, TWO + ";denies ^" + word);
        }
        for (String word : "rooms benc persons kins heed believe denie rumbles quie o onn".split(" ")) {
            s.good(BARE + ";bench " + word + " open at 1 1 seats 1 rent 1;person zz child for x cold 0 on " + word);
        }
        for (String word : "wide tall stove heat stock at seats rent open upper island for cold third first lady child weight"
            .split(" ")) {
            s.good(BENCH + ";person " + word + " third for x cold 0;believes " + word);
        }
        of("; each told once, ahead of its use.");
        s.good(BARE + ";bench a open at 1 1 seats 1 rent 1;bench aa open at 1 2 seats 1 rent 1;person aaa child for x cold 0 on aa;"
            + "person aaaaaaaa child for x cold 0 on a;kin aaa aaaaaaaa", BENCH + ";person ab child for x cold 0;"
            + "person ba child for x cold 0;person bb child for x cold 0;kin ab ba;kin ab bb");
        s.faulty(3, BENCH + ";bench ^b open at 0 1 seats 1 rent 1", TWO + ";person ^q third for x cold 0",
            BENCH + ";person ^b third for x cold 0", TWO + ";bench ^p open at 0 1 seats 1 rent 1");
        s.faulty(2, BARE + ";person p third for x cold 0 on ^b;bench b open at 1 1 seats 1 rent 1",
            BENCH + ";kin ^p q;person p third for x cold 0;person q third for x cold 0",
            BENCH + ";person p third for x cold 0;heeds p ^q weight 1;person q third for x cold 0",
            BENCH + ";denies ^p;person p third for x cold 0");
    }

    private void faults() {
        of("1 FORM: the first byte that begins no TOKEN, or TOKEN with which no ROOM goes on");
        s.faulty(1, "^#", "^123", "room ^2", BARE + ";^wide 3", BENCH + " ;^;",
            BENCH + "^?", BENCH + ";rumble 7^!", BENCH + ";rumble 7 ^rumble 8");
        of(" (the end: its place)");
        s.faulty(1, "^", "    ^", "room^", "room ^", "room   ^", BARE.substring(0, BARE.length() - 1) + "^", BENCH + ";^",
            BENCH + ";  ^", BENCH + ";rumble^", BENCH + ";rumble  ^");
        // the end of the first n bytes, not of THE TAPE
        s.answers(new Scene("", "tape:" + BENCH), "room " + (BENCH.length() - 1) + " = -1", "fault = 1",
            "where = " + (BENCH.length() - 1), "size 13 = 0");
        s.answers(new Scene("", "tape:" + BENCH + ";rumble 77"), "room " + (BENCH.length() + 9) + " = 1", "comes 7 = 11",
            "comes 77 = 4");
        s.answers(new Scene("", "tape:" + BENCH + "##"), "room " + BENCH.length() + " = 1", "fault = 0", "size 13 = 0");

        of("2 a NAME that isn't told, or is of another sort than must stand there; at it.");
        s.faulty(2, BENCH + ";person p third for x cold 0 on ^c", BENCH + ";person p third for x cold 0 on ^bb",
            BENCH + ";person p third for x cold 0 on ^p", TWO + ";person r third for x cold 0 on ^p", BENCH + ";kin ^p q",
            TWO + ";kin ^b q", TWO + ";kin p ^b", TWO + ";kin p ^r", TWO + ";kin p ^pp", TWO + ";heeds ^b q weight 1",
            TWO + ";heeds ^r q weight 1", TWO + ";heeds p ^b weight 1", TWO + ";heeds p ^r weight 1", TWO + ";believes ^b",
            TWO + ";believes ^r", TWO + ";denies ^b", TWO + ";denies ^x", TWO + ";denies ^third");
        of("3 a NAME told again; at it");
        s.faulty(3, BENCH + ";bench ^b", BENCH + ";bench   ^b zz", BENCH + ";person ^b", TWO + ";person ^p", TWO + ";bench ^q");
        of("; a second PERSON that is the first; at it");
        s.faulty(3, TWO + ";kin p  ^p", TWO + ";kin q ^q", TWO + ";heeds p  ^p", TWO + ";heeds q ^q weight 10");
        of("; one with whom the first is told already so; at it");
        s.faulty(3, TWO + ";kin p q;kin p  ^q", TWO + ";kin p q;kin q ^p", TWO + ";heeds p q weight 9;heeds p ^q weight 0");
        of("; a PERSON who believes, denies already; at it");
        s.faulty(3, TWO + ";believes p;believes  ^p", TWO + ";believes p;denies ^p", TWO + ";denies q;believes ^q",
            TWO + ";denies q;denies ^q");
        of("; an hour told already; at it");
        s.faulty(3, BENCH + ";rumble 99;quiet  ^99", BENCH + ";quiet 0;rumble ^0", BENCH + ";rumble 1;rumble 2;quiet ^1");
        of("; a second room: at that WORD.");
        s.faulty(3, BARE + ";^room", BARE + ";  ^room wide 3", BENCH + ";^" + BARE, TWO + ";^room ;;");
        of("4 a WHOLE out of bounds; at it.");
        s.faulty(4, "room wide  ^0", "room wide ^10", "room wide ^999", "room wide ^010", BENCH + ";rumble  ^100",
            "room wide 3 tall 3 stove 2 ^003", TWO + ";heeds p q weight ^00");
        of("5 MANY: a LINE more of its sort than there is room for, at its first WORD.");
        s.faulty(5, FIVE_BENCHES + ";bench f open at 2 0 seats 1 rent 1;  ^bench", SEVEN_PEOPLE + ";  ^person",
            FIVE_KIN + ";kin p v; ^kin", EIGHT_HEEDS + ";heeds q s weight 1; ^heeds", SEVEN_HOURS + ";quiet 8; ^quiet",
            SEVEN_HOURS + ";quiet 8;^rumble");
        of("6 LACKS: any LINE ahead of the room; at its WORD");
        for (String word : LINE_WORDS) {
            if (!word.equals("room")) {
                s.faulty(6, "^" + word, "   ^" + word + " 5");
            }
        }
        of("; at the end: no bench.");
        s.faulty(6, BARE + "^", BARE + "  ^", BARE + ";person p third for x cold 0^", BARE + ";rumble 7 ^",
            stretched(BARE, "^", 1001));
        s.good(BENCH);
        of("7 PLACE: a second WHOLE of a CELL where the stove or a bench is; at it");
        s.faulty(7, BARE + ";bench c open at 0  ^0", BENCH + ";bench c open at 1 ^1", BENCH + ";bench c open at 01 ^001");
        s.good(BENCH + ";bench c open at 1 0 seats 1 rent 0;bench d open at 1 2 seats 1 rent 0;"
            + "bench e open at 0 1 seats 1 rent 0;bench f open at 2 1 seats 1 rent 0");
        of("; a BENCH where that person mayn't sit, or without a free seat; at it.");
        s.faulty(7, BARE + ";bench b island at 1 1 seats 1 rent 1;person p third for x cold 0 on  ^b",
            BARE + ";bench b island at 1 1 seats 1 rent 1;person p child for x cold 0 on b;person q lady for x cold 0 on ^b",
            BARE + ";bench b island at 1 1 seats 1 rent 1;person p child for x cold 0 on b;person q first for x cold 0 on ^b");
    }

    private void faultsInOrder() {
        of("FAULTS, the first that is met from the left");
        s.faulty(1, "^# room wide 0", "room wide 3 ^# tall 0");
        s.faulty(4, "room wide ^0 # tall", "room wide ^0 tall 0");
        s.faulty(2, TWO + ";kin ^r r", TWO + ";heeds p ^r weight 0;#");
        s.faulty(3, TWO + ";heeds p ^p weight 0", BENCH + ";bench ^b low at 9 9", TWO + ";^room #");
        s.faulty(5, SEVEN_PEOPLE + ";^person p # cold 99", FIVE_KIN + ";kin p v;^kin p p");
        s.faulty(6, "^bench # low", "^kin a a;" + BENCH);
        s.faulty(7, BARE + ";bench b open at 0 ^0 seats 9", BENCH + ";bench c open at 1 ^1 #");
        s.faulty(4, BARE + ";bench b open at ^3 0", BARE + ";bench b open at ^3 9");
        of(", of one place the least number:");
        // the end: the LINE is not whole, and there is no bench
        s.faulty(1, BARE + ";^", "room wide 3^", BARE + ";bench^");
        // a WORD that is no NAME, and not told
        s.faulty(1, TWO + ";kin ^room q", TWO + ";kin p ^on", BENCH + ";person p third for x cold 0 on ^kin");
        // a WORD that begins no LINE, ahead of the room
        s.faulty(1, "^on", "^wide 3", "^b");
        // a second room is one more than there is room for, too
        s.faulty(3, BENCH + ";^room");
        // out of bounds is no place at all; a run too long is no WHOLE, so it can't be out of bounds
        s.faulty(4, BARE + ";bench b open at 0 ^3", BENCH + ";bench c open at 1 ^11");
        s.faulty(1, "room wide ^1000", BARE + ";bench b open at 0 ^0000");
    }

    private void newObjectAndFeed() {
        Scene none = new Scene("");
        s.of(1, "No ROOM.");
        for (int what = 0; what <= 13; what++) {
            s.answers(none, "size " + what + " = 0");
        }
        s.answers(none, "trouble = 0", "fault = 0", "where = -1", "led 0 = throws", "trouble = 0", "content = -1",
            "trouble = 1", "where = -1");

        s.of(2, "Twenty bytes come behind THE TAPE, of each number the highest first: how many it has");
        s.answers(none, "feed 0 0 0 0 0 = 20", "feed -1 -1 -1 -1 -1 = 40", "size 13 = 40", "size 3 = 0");
        // r, o, o, m in one number: 114, 111, 111, 109; then blanks
        s.answers(none, "feed 1919905645 538976288 538976288 538976288 538976288 = 20", "room 20 = -1", "fault = 1",
            "where = 20");
        s.answers(none, "feed 538976288 538976288 538976288 538976288 1919905645 = 20", "room 20 = -1", "where = 20",
            "fault = 1");
        s.answers(none, "feed 538976288 538976288 538976288 538976288 1919905536 = 20", "room 20 = -1", "where = 16");
        s.answers(none, "feed 1919905645 538976288 538976288 538976288 538976288 = 20",
            "feed 2003395685 538976288 538976288 538976288 538976288 = 40", "room 40 = -1", "fault = 1", "where = 40");
        // the highest bit of a byte counts: 128 and 160 are no blanks
        s.answers(none, "feed -2147483648 0 0 0 0 = 20", "room 20 = -1", "fault = 1", "where = 0");
        s.answers(none, "feed 538976416 0 0 0 0 = 20", "room 20 = -1", "fault = 1", "where = 3");
        s.of(2, "; NONE, and none comes, if there would be more than 1,000.");
        Scene nearly = none;
        String blanks = " ".repeat(20);
        for (int i = 0; i < 49; i++) {
            nearly = nearly.then("tape:" + blanks);
        }
        Scene full = nearly.then("tape:" + stretched("", "#", 20));
        s.answers(nearly, "size 13 = 980", "feed 0 0 0 0 0 = 1000", "size 13 = 1000");
        s.answers(full, "size 13 = 1000", "feed 0 0 0 0 0 = -1", "size 13 = 1000", "trouble = 0", "feed 1 1 1 1 1 = -1",
            "room 1000 = -1", "fault = 1", "where = 999", "size 13 = 0", "feed 0 0 0 0 0 = 20");
        s.refused(full, 0, "feed 0 0 0 0 0 = -1", "feed -1 -1 -1 -1 -1 = -1");
        s.refused(full.then("undo"), 6, "feed 0 0 0 0 0 = -1");
    }

    private void room() {
        int length = BENCH.length();
        int fed = (length + 19) / 20 * 20;
        s.of(3, "The first n bytes of THE TAPE (it is empty then) are the ROOM from now on");
        s.answers(new Scene("", "tape:" + BENCH), "size 13 = " + fed, "room " + length + " = 1", "size 13 = 0", "size 3 = 1");
        s.answers(new Scene("", "tape:" + BENCH), "room " + fed + " = 1", "size 13 = 0");
        s.answers(new Scene("", "tape:" + BENCH), "room 0 = -1", "trouble = 4", "fault = 1", "where = 0", "size 13 = 0",
            "size 3 = 0");
        s.answers(new Scene("", "tape:" + BENCH), "room 1 = -1", "trouble = 4", "fault = 1", "where = 0", "size 13 = 0");
        s.answers("", "room 0 = -1", "trouble = 4", "fault = 1", "where = 0");
        s.of(3, "(day 0; nothing to undo, no IMAGES)");
        s.answers(Sentences.USED.then("tape:" + BENCH), "size 10 = 1", "size 11 = 5", "size 12 = 2",
            "room " + length + " = 1", "size 10 = 0", "size 11 = 0", "size 12 = 0", "undo = 0", "trouble = 6", "back 0 = 0",
            "trouble = 1", "image = 0", "size 9 = 6", "size 4 = 0", "size 5 = 0", "size 6 = 0", "size 7 = 0", "size 8 = 0");
        // the same text again: all is as it was told
        s.answers(Sentences.USED.then("tape:" + PromiseTests.STATION), "room " + PromiseTests.STATION.length() + " = 4",
            "person 3 2 = -2", "person 4 2 = 3", "person 0 4 = 0", "size 9 = 10", "size 10 = 0", "size 11 = 0");
        // texts in turn, a faulty one among them: nothing of an earlier one is left in a later one
        Scene turns = new Scene("");
        String other = "room wide 2 tall 1 stove 0 0 heat 9 stock 0;bench oak island at 1 0 seats 3 rent 2;"
            + "person ed lady for rome cold 1;person al child for york cold 2;person bea lady for rome cold 3;quiet 7;rumble 9";
        for (int turn = 0; turn < 3; turn++) {
            turns = turns.then("tape:" + PromiseTests.STATION, "room " + PromiseTests.STATION.length());
            s.answers(turns, "trouble = 0", "size 3 = 4", "size 4 = 5", "size 5 = 1", "size 6 = 4", "size 7 = 2", "size 8 = 1",
                "trains = 1", "comes 7 = 1", "comes 8 = 0", "person 0 2 = 0", "person 2 2 = -2", "person 1 4 = 1",
                "person 0 4 = 0", "mayMarry 1 = 17", "drawn 4 = 0", "size 9 = 10", "size 10 = 0");
            turns = turns.then("day", "preach 0 1", "tape:" + PromiseTests.STATION + ";rumble 7",
                "room " + (PromiseTests.STATION.length() + 9), "tape:" + other, "room " + other.length());
            s.answers(turns, "trouble = 0", "size 3 = 1", "size 4 = 3", "size 5 = 0", "size 6 = 0", "size 7 = 1", "size 8 = 1",
                "trains = 10", "comes 7 = 0", "comes 9 = 10", "person 0 2 = -2", "person 1 2 = -2", "person 1 4 = 0",
                "person 0 4 = 0", "mayMarry 0 = 4", "drawn 0 = 0", "size 9 = 0", "size 10 = 0", "bench 0 6 = 0");
        }
        s.of(3, ": how many benches.");
        s.answers(new Scene("", "tape:" + FIVE_BENCHES), "room " + FIVE_BENCHES.length() + " = 5", "trouble = 0");
        String six = FIVE_BENCHES + ";bench f open at 2 0 seats 1 rent 1";
        s.answers(new Scene("", "tape:" + six), "room " + six.length() + " = 6", "trouble = 0", "size 3 = 6");
        s.of(3, "NONE: 2 (THE TAPE stays)");
        Scene taped = Sentences.USED.then("tape:" + BENCH);
        s.refused(taped, 2, "room -1 = -1", "room " + (fed + 1) + " = -1", "room 1001 = -1", "room -2147483648 = -1",
            "room 2147483647 = -1");
        s.refused(Sentences.USED, 2, "room 1 = -1", "room -1 = -1");
        s.refused("", 2, "room 1 = -1", "room -1 = -1");
        s.of(3, "; 4 (the ROOM stays).");
        s.faulty(1, "^", "^#", BENCH + ";^");
        s.faulty(6, BARE + "^");
        s.answers(new Scene("", "tape:" + BARE), "room " + BARE.length() + " = -1", "trouble = 4", "size 0 = 0", "size 9 = 0",
            "content = -1", "trouble = 1");
    }

    private void faultAndWhere() {
        Scene faulty = Sentences.USED.then("tape:room wide 0", "room 11");
        s.of(4, "The FAULT of the latest room() not refused by 2");
        s.answers(faulty, "fault = 4", "room 1 = -1", "trouble = 2", "fault = 4", "content = 1", "fault = 4", "tape:" + BENCH,
            "fault = 4", "room " + BENCH.length() + " = 1", "fault = 0");
        s.of(4, "; 0 without one.");
        s.answers("", "fault = 0", "room 1 = -1", "fault = 0");
        s.answers(BENCH, "fault = 0", "room 1 = -1", "fault = 0");
        s.of(5, "Its place, if the latest call that may be refused was by 4");
        s.answers(faulty, "where = 10", "where = 10", "trouble = 4", "fault = 4", "size 0 = 6", "led 9 = throws",
            "feed 0 0 0 0 0 = 20", "where = 10", "trouble = 4");
        s.of(5, "; NONE else.");
        s.answers("", "where = -1");
        s.answers(BENCH, "where = -1");
        s.answers(faulty, "content = 1", "where = -1", "fault = 4");
        s.answers(faulty, "bench 9 9 = -1", "where = -1", "trouble = 1");
        s.answers(faulty, "room 1 = -1", "where = -1", "trouble = 2");
        s.answers(faulty, "undo = 1", "where = -1");
    }
}
