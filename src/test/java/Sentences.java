import java.util.List;

/**
 * The document, sentence by sentence. Each test begins with the words that it holds the class to; at the end no word of the
 * Terms or of a promise may be left of which no test was told.
 */
final class Sentences {
    static final int WHAT_IT_IS = -1;
    static final int TERMS = 0;
    private static final int PROMISES = 52;
    /** An object with something of everything: people who sit and stand, ACTS, IMAGES, days gone by. */
    static final Scene USED = new Scene(PromiseTests.STATION, "sit 3 1", "preach 0 1", "image", "day", "round", "image",
        "stand 4");

    private final String[] told = new String[PROMISES + 2];
    private final boolean[][] tested = new boolean[PROMISES + 2][];
    private String test = "";
    private int passed;
    private int failed;

    Sentences(String document) {
        String plain = document.replaceAll("\\s+", " ");
        told[0] = between(plain, "images. ", "## The public face");
        told[1] = between(plain, "## Terms", "Ahead of the calls `feed`").replace("```text", "").replace("```", "");
        for (int promise = 1; promise <= PROMISES; promise++) {
            String next = promise < PROMISES ? "## Promise " + (promise + 1) + ":" : "## Not promised";
            String section = between(plain, "## Promise " + promise + ":", next);
            told[promise + 1] = section.substring(section.indexOf("`:") + 2);
        }
        for (int i = 0; i < told.length; i++) {
            told[i] = told[i].replaceAll("\\s+", " ");
            tested[i] = new boolean[told[i].length()];
        }
    }

    private static String between(String text, String from, String to) {
        int start = text.indexOf(from) + from.length();
        return text.substring(start, text.indexOf(to, start));
    }

    /** What comes now tests these words of a promise, or of the Terms. */
    void of(int section, String words) {
        test = (section > 0 ? "promise " + section : section == TERMS ? "Terms" : "What it is") + ": \"" + words + "\"";
        String text = told[section + 1];
        boolean[] marks = tested[section + 1];
        int at = text.indexOf(words);
        while (at >= 0 && marks[at] && text.indexOf(words, at + 1) >= 0) {
            at = text.indexOf(words, at + 1);
        }
        check("the document says so", at >= 0 ? 1 : 0, 1);
        for (int i = 0; at >= 0 && i < words.length(); i++) {
            marks[at + i] = true;
        }
    }

    /** Tells of words that no test was told of; answers whether all is well. */
    boolean finish() {
        for (int i = 0; i < told.length; i++) {
            StringBuilder left = new StringBuilder();
            for (int k = 0; k < told[i].length(); k++) {
                left.append(tested[i][k] ? '|' : told[i].charAt(k));
            }
            String untested = left.toString().replaceAll("\\|+", " | ").trim();
            test = i > 1 ? "promise " + (i - 1) : i == 1 ? "Terms" : "What it is";
            check("words without a test: " + untested, untested.matches(".*[A-Za-z0-9].*") ? 1 : 0, 0);
        }
        System.out.println(passed + " passed, " + failed + " failed");
        return failed == 0;
    }

    void check(String what, int got, int due) {
        if (got == due) {
            passed++;
        } else {
            failed++;
            System.out.println(test + ": " + what + " answered " + got + ", due is " + due);
        }
    }

    // ---- calls

    /** One object lives through the steps, each told as "call number number = answer". */
    void answers(Scene scene, String... steps) {
        Scene.Actor actor = scene.make();
        for (String step : steps) {
            if (step.contains(" = ")) {
                check(step, actor.call(callOf(step)), answerOf(step));
            } else {
                actor.call(step);
            }
        }
    }

    void answers(String text, String... steps) {
        answers(new Scene(text), steps);
    }

    /** Each question, alone on an object: its answer, no TROUBLE, and nothing has changed. */
    void asked(Scene scene, String... questions) {
        for (String question : questions) {
            alone(scene, question, 0);
        }
    }

    void asked(String text, String... questions) {
        asked(new Scene(text), questions);
    }

    /** Each call, alone on an object: its answer, its TROUBLE, and nothing else has changed. */
    void refused(Scene scene, int trouble, String... calls) {
        for (String call : calls) {
            alone(scene, call, trouble);
        }
    }

    void refused(String text, int trouble, String... calls) {
        refused(new Scene(text), trouble, calls);
    }

    private void alone(Scene scene, String step, int trouble) {
        String call = callOf(step);
        Scene.Actor actor = scene.make();
        int fault = actor.call("fault");
        check(step, actor.call(call), answerOf(step));
        check("trouble() behind " + step, actor.call("trouble"), trouble);
        check("where() behind " + step, actor.call("where"), BenchColony.NONE);
        check("fault() behind " + step, actor.call("fault"), fault);
        sameBehind(step, scene.then(call), scene);
    }

    private void sameBehind(String what, Scene changed, Scene untouched) {
        for (int way = 0; way < Scene.Actor.LOOKS.length; way++) {
            List<Integer> got = changed.make().look(way);
            List<Integer> due = untouched.make().look(way);
            check(what + " leaves " + Scene.Actor.LOOKS[way] + " as it was", got.equals(due) ? 1 : 0, 1);
        }
    }

    /**
     * A call whose number (told as #) has bounds: at both it answers as told here; one below, one above and far off it is
     * refused.
     */
    void bounds(Scene scene, String call, int least, int atLeast, int most, int atMost, int refusal, int trouble) {
        asked(scene, call.replace("#", "" + least) + " = " + atLeast, call.replace("#", "" + most) + " = " + atMost);
        for (int number : new int[] {least - 1, most + 1, Integer.MIN_VALUE, Integer.MAX_VALUE}) {
            refused(scene, trouble, call.replace("#", "" + number) + " = " + refusal);
        }
    }

    private static String callOf(String step) {
        return step.substring(0, step.indexOf(" = "));
    }

    private static int answerOf(String step) {
        String answer = step.substring(step.indexOf(" = ") + 3);
        return answer.equals("throws") ? Face.THROWN : Integer.parseInt(answer);
    }

    // ---- texts

    /** Each text has a ^ at the place of its FAULT; the ROOM stays with all that is so NOW, THE TAPE is empty. */
    void faulty(int number, String... markedTexts) {
        for (String marked : markedTexts) {
            int place = marked.indexOf('^');
            String text = marked.substring(0, place) + marked.substring(place + 1);
            Scene.Actor actor = USED.make();
            check("room() of " + marked, actor.tell(text), BenchColony.NONE);
            check("trouble() of " + marked, actor.call("trouble"), 4);
            check("fault() of " + marked, actor.call("fault"), number);
            check("where() of " + marked, actor.call("where"), place);
            check("size(13) behind " + marked, actor.call("size 13"), 0);
            sameBehind(marked, USED.then("tape:" + text, "room " + text.length()), USED);
        }
    }

    /** Each text is a ROOM, which takes the place of the one before, on its day 0. */
    void good(String... texts) {
        for (String text : texts) {
            Scene.Actor actor = USED.make();
            int benches = (" " + text).split("(?<=[; ])bench +[a-z]+ +(open|upper|island)", -1).length - 1;
            check("room() of " + text, actor.tell(text), benches);
            for (String step : new String[] {"trouble = 0", "fault = 0", "where = -1", "size 13 = 0", "size 10 = 0",
                "size 11 = 0", "size 12 = 0", "undo = 0", "trouble = 6", "back 0 = 0", "trouble = 1"}) {
                check(step + " behind " + text, actor.call(callOf(step)), answerOf(step));
            }
        }
    }

    /** A text whose WHOLE (told as #) has bounds: FAULT 4 one below, one above and far off. */
    void wholes(String pattern, int least, int most) {
        good(pattern.replace("#", "" + least), pattern.replace("#", "" + most));
        for (int number : new int[] {least - 1, most + 1, 999}) {
            if (number >= 0) {
                faulty(4, pattern.replace("#", "^" + number));
            }
        }
    }

    /**
     * A LINE amid others, cut ahead of each of its TOKENS, with each TOKEN in turn taken by another or by no TOKEN, each
     * WORD but the NAMES (told by one letter) by one that is nearly like it, and with one TOKEN more.
     */
    void form(String ahead, String line, String behind) {
        String[] tokens = line.split(" ");
        String before = ahead;
        for (String token : tokens) {
            String other = Character.isDigit(token.charAt(0)) ? "zz" : "0";
            faulty(1, before + "^", before + "^;" + behind, before + "^#" + token, before + "^" + other);
            if (token.length() > 1) {
                int last = token.length() - 1;
                faulty(1, before + "^z" + token.substring(1), before + "^" + token.substring(0, last) + "z",
                    before + "^" + token.substring(0, last), before + "^" + token + "z");
            }
            before = before + token + " ";
        }
        good(ahead + line + behind);
        faulty(1, ahead + line + " ^zz" + behind, ahead + line + " ^0" + behind);
    }
}
