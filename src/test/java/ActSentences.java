import java.util.List;

/** Promises 42 to 52: what can be done, and what is told. */
final class ActSentences {
    private static final Scene NO_ROOM = new Scene("");
    private static final Scene EMPTY = new Scene(PromiseTests.EMPTY);
    private static final Scene USED = Sentences.USED;
    private static final Scene FULL = new Scene(TermSentences.FULL);
    private static final String BARE = PromiseTests.BARE;
    private static final String BENCH = PromiseTests.BENCH;
    private static final int MOST = Integer.MAX_VALUE;
    private static final int LEAST = Integer.MIN_VALUE;

    private final Sentences s;

    ActSentences(Sentences sentences) {
        s = sentences;
    }

    void tell() {
        sit();
        stand();
        preach();
        round();
        day();
        undo();
        imageAndBack();
        led();
        size();
        trouble();
    }

    private void noneSuch(Scene scene, String call, int count) {
        for (int number : new int[] {-1, count, LEAST, MOST}) {
            s.refused(scene, 1, call.replace("#", "" + number) + " = 0");
        }
    }

    private void sit() {
        s.of(42, "SIT: true");
        s.answers(USED, "sit 4 3 = 1", "trouble = 0", "person 4 2 = 3", "bench 3 6 = 16", "size 11 = 6", "sit 0 3 = 1",
            "bench 0 6 = 2", "bench 3 6 = 17", "sit 3 3 = 1", "bench 1 6 = 0", "bench 3 6 = 25", "size 11 = 8");
        s.answers(FULL, "sit 6 5 = 0", "sit 6 0 = 1", "bench 4 6 = 34", "bench 0 6 = 64", "sit 3 4 = 1", "bench 4 6 = 42",
            "sit 6 5 = 1");
        s.of(42, "; false: 1");
        noneSuch(USED, "sit # 0", 5);
        noneSuch(USED, "sit 4 #", 4);
        noneSuch(FULL, "sit # 0", 7);
        noneSuch(FULL, "sit 0 #", 6);
        noneSuch(EMPTY, "sit 0 #", 2);
        s.refused(EMPTY, 1, "sit 0 0 = 0");
        s.refused(NO_ROOM, 1, "sit 0 0 = 0", "sit -1 -1 = 0");
        s.of(42, "; 5 (he sits there, mayn't)");
        s.refused(USED, 5, "sit 0 0 = 0", "sit 1 0 = 0", "sit 3 1 = 0", "sit 4 1 = 0", "sit 4 2 = 0", "sit 2 2 = 0",
            "sit 1 1 = 0");
        // he sits there, and it is full; he mayn't, and it is full
        s.refused(BARE + ";bench b island at 1 1 seats 1 rent 0;person p child for x cold 0 on b;person q third for x cold 0",
            5, "sit 0 0 = 0", "sit 1 0 = 0");
        s.of(42, "; 3 (no free seat).");
        s.refused(USED, 3, "sit 4 0 = 0", "sit 2 1 = 0", "sit 3 0 = 0", "sit 2 0 = 0");
        for (int seats = 1; seats <= 3; seats++) {
            String text = BARE + ";bench b open at 1 1 seats " + seats + " rent 0;bench c open at 1 0 seats 1 rent 0;"
                + "person p child for x cold 0;person q child for x cold 0;person r child for x cold 0;person t child for x cold 0";
            Scene scene = new Scene(text);
            for (int p = 0; p < seats; p++) {
                s.answers(scene, "sit " + p + " 0 = 1");
                scene = scene.then("sit " + p + " 0");
            }
            s.refused(scene, 3, "sit 3 0 = 0");
            s.refused(scene.then("sit 3 1"), 3, "sit 3 0 = 0");
            s.answers(scene, "stand 0 = 1", "sit 3 0 = 1", "sit 0 0 = 0", "trouble = 3");
        }
    }

    private void stand() {
        s.of(43, "STAND: true");
        s.answers(USED, "stand 0 = 1", "trouble = 0", "person 0 2 = -2", "bench 0 6 = 2", "size 11 = 6", "stand 3 = 1",
            "stand 1 = 1", "bench 0 6 = 0", "bench 1 6 = 0", "rents = 0");
        s.answers(FULL, "stand 0 = 1", "stand 6 = 1", "bench 4 6 = 34");
        s.of(43, "; false: 1");
        noneSuch(USED, "stand #", 5);
        noneSuch(FULL, "stand #", 7);
        noneSuch(EMPTY, "stand #", 0);
        s.refused(NO_ROOM, 1, "stand 0 = 0");
        s.of(43, "; 5 (he does).");
        s.refused(USED, 5, "stand 2 = 0", "stand 4 = 0");
        s.refused(USED.then("stand 0"), 5, "stand 0 = 0");
    }

    private void preach() {
        s.of(44, "PREACH: true");
        s.answers(USED, "preach 0 -1 = 1", "trouble = 0", "person 0 4 = -1", "size 11 = 6", "preach 0 0 = 1", "person 0 4 = 0",
            "preach 0 1 = 1", "person 0 4 = 1", "size 11 = 8");
        // no heeding, and no KIND, keeps one from it
        s.answers(USED, "preach 1 -1 = 1", "person 1 4 = -1", "preach 2 1 = 1", "person 2 4 = 1");
        s.of(44, "; false: 1");
        noneSuch(USED, "preach # 0", 5);
        noneSuch(FULL, "preach # 1", 7);
        noneSuch(EMPTY, "preach # 1", 0);
        s.refused(NO_ROOM, 1, "preach 0 1 = 0", "preach 0 2 = 0");
        s.refused(USED, 1, "preach 5 2 = 0", "preach -1 -2 = 0");
        s.of(44, "; 2 (-1 .. 1)");
        s.refused(USED, 2, "preach 0 -2 = 0", "preach 0 2 = 0", "preach 0 " + LEAST + " = 0", "preach 0 " + MOST + " = 0",
            "preach 4 2 = 0", "preach 2 -2 = 0");
        s.of(44, "; 5 (it is so).");
        s.refused(USED, 5, "preach 0 1 = 0", "preach 2 -1 = 0", "preach 4 0 = 0");
        s.refused(USED.then("preach 0 0"), 5, "preach 0 0 = 0");
    }

    private void round() {
        s.of(45, "ROUND: who changed, as bits.");
        s.answers(USED, "round = 16", "trouble = 0", "person 4 4 = 1", "size 11 = 6", "round = 0", "trouble = 0",
            "size 11 = 7", "undo = 1", "undo = 1", "person 4 4 = 0");
        s.answers(EMPTY, "round = 0", "trouble = 0", "size 11 = 1");
        s.answers(TermSentences.RING, "round = 35", "round = 17");
        s.of(45, "NONE: 1 (no ROOM).");
        s.refused(NO_ROOM, 1, "round = -1");
    }

    private void day() {
        s.of(46, "DAY: who ate, as bits.");
        // five are left for five, then none
        s.answers(USED, "day = 31", "trouble = 0", "size 9 = 0", "size 10 = 2", "size 11 = 6", "day = 0", "trouble = 0",
            "size 10 = 3", "size 11 = 7", "undo = 1", "undo = 1", "size 9 = 5", "size 10 = 1");
        s.answers(FULL, "day = 127", "size 9 = 193");
        s.answers(EMPTY, "day = 0", "size 9 = 6", "size 10 = 1");
        s.of(46, "NONE: 1 (no ROOM)");
        s.refused(NO_ROOM, 1, "day = -1");
        s.of(46, "; 3 (99 went by).");
        Scene scene = new Scene(BENCH);
        for (int i = 0; i < 98; i++) {
            scene = scene.then("day");
        }
        s.answers(scene, "size 10 = 98", "day = 0", "trouble = 0", "size 10 = 99", "day = -1", "trouble = 3", "size 10 = 99");
        Scene last = scene.then("day");
        s.refused(last, 3, "day = -1");
        s.answers(last, "undo = 1", "size 10 = 98", "day = 0", "size 10 = 99", "day = -1");
        s.answers(scene.then("image", "day"), "day = -1", "back 0 = 1", "size 10 = 98", "day = 0", "day = -1");
        s.answers(last.then("tape:" + BENCH), "room " + BENCH.length() + " = 1", "size 10 = 0", "day = 0");
    }

    private void undo() {
        s.of(47, "UNDO: true");
        s.answers(USED, "undo = 1", "trouble = 0", "person 4 2 = 3", "size 11 = 4", "undo = 1", "person 3 4 = 0", "size 10 = 1",
            "undo = 1", "size 10 = 0", "size 9 = 10", "undo = 1", "person 0 4 = 0", "person 3 2 = 1", "undo = 1",
            "person 3 2 = -2", "size 11 = 0", "size 12 = 2", "undo = 0", "trouble = 6");
        s.of(47, "; false: 6.");
        s.refused(NO_ROOM, 6, "undo = 0");
        s.refused(BENCH, 6, "undo = 0");
        s.refused(USED.then("undo", "undo", "undo", "undo", "undo"), 6, "undo = 0");
        s.refused(USED.then("back 1"), 6, "undo = 0");
        s.refused(USED.then("tape:" + BENCH, "room " + BENCH.length()), 6, "undo = 0");
        Scene many = new Scene(BENCH);
        for (int i = 0; i < 40; i++) {
            many = many.then("day");
        }
        for (int i = 0; i < 16; i++) {
            s.answers(many, "size 11 = " + (16 - i), "undo = 1", "size 10 = " + (39 - i));
            many = many.then("undo");
        }
        s.refused(many, 6, "undo = 0");
        s.answers(many, "size 10 = 24", "day = 0", "size 11 = 1", "undo = 1", "size 10 = 24", "undo = 0");
    }

    private void imageAndBack() {
        s.of(48, "An IMAGE: its number.");
        s.answers(BENCH, "image = 0", "trouble = 0", "size 12 = 1", "image = 1", "size 12 = 2", "image = 2", "size 12 = 3",
            "size 11 = 0");
        s.answers(USED, "image = 2", "size 12 = 3", "size 11 = 5");
        s.of(48, "NONE: 1 (no ROOM)");
        s.refused(NO_ROOM, 1, "image = -1");
        s.of(48, "; 3.");
        s.refused(USED.then("image"), 3, "image = -1");
        s.refused(new Scene(BENCH, "image", "image", "image"), 3, "image = -1");
        s.refused(USED.then("image", "back 0"), 3, "image = -1");

        s.of(49, "All is as by an IMAGE (all IMAGES stay): true");
        // the first IMAGE is ahead of the day and the ROUND, the second behind them
        s.answers(USED, "back 0 = 1", "trouble = 0", "size 9 = 10", "size 10 = 0", "person 3 4 = 0", "person 4 2 = 3",
            "person 3 2 = 1", "person 0 4 = 1", "size 11 = 0", "size 12 = 2", "back 1 = 1", "size 9 = 5", "size 10 = 1",
            "person 3 4 = 1", "person 4 2 = 3", "size 12 = 2", "day = 31", "back 1 = 1", "size 9 = 5", "back 0 = 1",
            "size 9 = 10", "image = 2", "back 2 = 1", "size 9 = 10", "size 12 = 3");
        // an IMAGE is not changed by what comes behind it
        s.answers(USED, "back 0 = 1", "stand 0 = 1", "preach 1 0 = 1", "day = 31", "back 0 = 1", "person 0 2 = 0",
            "person 1 4 = 1", "size 9 = 10");
        s.of(49, "; false: 1.");
        noneSuch(USED, "back #", 2);
        noneSuch(USED.then("image"), "back #", 3);
        noneSuch(new Scene(BENCH), "back #", 0);
        noneSuch(NO_ROOM, "back #", 0);
        s.refused(USED.then("tape:" + BENCH, "room " + BENCH.length()), 1, "back 0 = 0", "back 1 = 0");
    }

    private void led() {
        s.of(50, "The i-th person, by numbers, who stands.");
        s.asked(USED, "led 0 = 2", "led 1 = 4");
        s.answers(USED, "stand 0 = 1", "led 0 = 0", "led 1 = 2", "led 2 = 4", "sit 2 3 = 1", "led 1 = 4");
        s.answers(FULL, "stand 6 = 1", "led 0 = 6", "stand 0 = 1", "led 0 = 0", "led 1 = 6");
        s.of(50, "NoSuchElementException if there is none such.");
        s.refused(USED, 0, "led 2 = throws", "led -1 = throws", "led " + LEAST + " = throws", "led " + MOST + " = throws");
        s.refused(FULL, 0, "led 0 = throws", "led -1 = throws");
        s.refused(EMPTY, 0, "led 0 = throws", "led -1 = throws");
        s.refused(NO_ROOM, 0, "led 0 = throws", "led -1 = throws");
        // it leaves TROUBLE as it is
        s.refused(USED.then("stand 2"), 5, "led 2 = throws");
        s.refused(NO_ROOM.then("undo"), 6, "led 0 = throws");
    }

    private void size() {
        s.of(51, "0 wide, 1 tall, 2 heat, 3 benches, 4 people, 5 kin, 6 heeds, 7 rumbles, 8 quiet hours");
        s.asked(USED, "size 0 = 6", "size 1 = 4", "size 2 = 30", "size 3 = 4", "size 4 = 5", "size 5 = 1", "size 6 = 4",
            "size 7 = 2", "size 8 = 1");
        s.asked(FULL, "size 0 = 9", "size 1 = 9", "size 2 = 60", "size 3 = 6", "size 4 = 7", "size 5 = 0", "size 6 = 0",
            "size 7 = 0", "size 8 = 0");
        s.of(51, ", 9 sandwiches NOW, 10 the day NOW, 11 ACTS that can be undone, 12 IMAGES, 13 bytes of THE TAPE.");
        s.asked(USED, "size 9 = 5", "size 10 = 1", "size 11 = 5", "size 12 = 2", "size 13 = 0");
        s.asked(USED.then("tape:" + BENCH, "undo", "undo", "undo", "image"), "size 9 = 10", "size 10 = 0", "size 11 = 2",
            "size 12 = 3", "size 13 = " + (BENCH.length() + 19) / 20 * 20);
        s.of(51, "NONE for others");
        s.bounds(USED, "size #", 0, 6, 13, 0, -1, 0);
        s.bounds(NO_ROOM, "size #", 0, 0, 13, 0, -1, 0);
        s.refused(USED.then("stand 2"), 5, "size 14 = -1", "size -1 = -1");
        s.of(51, "; 0 for what there isn't.");
        for (int what = 0; what <= 13; what++) {
            s.asked(NO_ROOM, "size " + what + " = 0");
        }
        s.asked(EMPTY, "size 4 = 0", "size 5 = 0", "size 6 = 0", "size 7 = 0", "size 8 = 0", "size 10 = 0", "size 11 = 0",
            "size 12 = 0", "size 13 = 0");
    }

    /** Each call of which a number is told, answered behind one that was refused; then the others, which leave it. */
    private void trouble() {
        s.of(52, "TROUBLE.");
        for (String call : Face.CALLS) {
            String[] parts = call.split(" ");
            String zeros = parts[0] + " 0".repeat(Integer.parseInt(parts[1]));
            boolean silent = List.of("feed", "fault", "where", "led", "size", "trouble").contains(parts[0]);
            Scene refused = new Scene(TermSentences.FULL, "image", "stand 0", "bench 9 9", zeros);
            boolean soAlready = parts[0].equals("stand") || parts[0].equals("preach");
            int due = parts[0].equals("room") ? 4 : soAlready ? 5 : silent ? 1 : 0;
            s.answers(refused, "trouble = " + due, "trouble = " + due);
        }
        s.answers(NO_ROOM, "trouble = 0", "room 1 = -1", "trouble = 2", "room 0 = -1", "trouble = 4", "undo = 0", "trouble = 6",
            "image = -1", "trouble = 1");
        s.answers(USED, "sit 4 0 = 0", "trouble = 3", "sit 0 0 = 0", "trouble = 5", "sit 4 3 = 1", "trouble = 0");
    }
}
