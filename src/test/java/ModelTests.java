import java.util.ArrayList;
import java.util.Arrays;
import java.util.List;
import java.util.Random;

/** Random runs (from fixed seeds) of rooms, faulty rooms and calls, each answer held against the Model's. */
public final class ModelTests {
    private static final int RUNS = 3000;
    private static final int CALLS = 400;
    private static final String[] WORDS = {"room", "bench", "person", "kin", "heeds", "believes", "denies", "rumble",
        "quiet", "on", "at", "for", "cold", "weight", "seats", "rent", "open", "upper", "island", "third", "first",
        "lady", "child", "wide", "tall", "stove", "heat", "stock", ";", "a", "b", "c", "p", "q", "r", "zz", "abcdefgh",
        "abcdefghi", "0", "1", "2", "9", "10", "30", "31", "60", "61", "99", "100", "200", "201", "999", "1000", "007",
        "#", "A", "\n", "\u00e9", "_", "bench2"};

    private final Random random;
    private final BenchColony colony = new BenchColony();
    private final Model model = new Model();
    private final StringBuilder story = new StringBuilder();
    private boolean wrong;

    private ModelTests(long seed) {
        random = new Random(seed);
    }

    public static void main(String[] args) {
        int passed = 0;
        int failed = 0;
        for (int run = 0; run < RUNS && failed < 5; run++) {
            ModelTests test = new ModelTests(run);
            test.live();
            if (test.wrong) {
                failed++;
                System.out.println("run " + run + ":\n" + test.story);
            } else {
                passed++;
            }
        }
        System.out.println(passed + " passed, " + failed + " failed");
        if (failed > 0) {
            System.exit(1);
        }
    }

    private void live() {
        int made = 0;
        while (made < CALLS && !wrong) {
            if (made == 0 || random.nextInt(60) == 0) {
                made += tellRoom();
            } else {
                String[] call = Face.CALLS[random.nextInt(Face.CALLS.length)].split(" ");
                if (call[0].equals("sit") || call[0].equals("image") && random.nextInt(4) != 0) {
                    call = "sit 2".split(" ");
                }
                both(call[0], numbers(call[0], Integer.parseInt(call[1])));
                made++;
            }
        }
    }

    private int both(String name, int... a) {
        int due = model.call(name, a);
        int got = Face.call(colony, name, a);
        story.append(name).append(Arrays.toString(a)).append(" = ").append(got).append('\n');
        if (got != due) {
            wrong = true;
            story.append("  but due is ").append(due).append('\n');
        }
        for (String after : new String[] {"trouble", "where", "fault"}) {
            int dueAfter = model.call(after);
            int gotAfter = Face.call(colony, after);
            if (gotAfter != dueAfter) {
                wrong = true;
                story.append("  then ").append(after).append(" = ").append(gotAfter).append(", due is ").append(dueAfter)
                    .append('\n');
            }
        }
        return got;
    }

    private int pick(int... choices) {
        return choices[random.nextInt(choices.length)];
    }

    private int[] numbers(String name, int count) {
        int[] a = new int[count];
        for (int i = 0; i < count; i++) {
            a[i] = number(name, i);
        }
        return a;
    }

    private int number(String name, int i) {
        if (random.nextInt(40) == 0) {
            return pick(Integer.MIN_VALUE, Integer.MAX_VALUE, -1, -2, 1000, 65537, 32, 64);
        }
        return switch (name) {
            case "feed" -> random.nextInt();
            case "bench" -> i == 0 ? someBench() : random.nextInt(8);
            case "person" -> i == 0 ? someone() : random.nextInt(7);
            case "room" -> random.nextInt(100);
            case "coal" -> i == 0 ? someBench() : pick(random.nextInt(1000), 999, 1000, 7);
            case "eats", "left" -> name.equals("eats") && i == 0 ? someone() : pick(random.nextInt(101), 3, 5);
            case "trainAt" -> pick(random.nextInt(78), random.nextInt(5));
            case "comes", "surely" -> random.nextInt(101);
            case "believers" -> random.nextInt(22);
            case "shout" -> i == 0 ? random.nextInt(101) : i == 3 ? random.nextInt(2) : random.nextInt(8);
            case "rests", "rest" -> pick(random.nextInt(101), random.nextInt(20));
            case "years" -> i == 0 ? random.nextInt(65538) : random.nextInt(92);
            case "yearsAt", "happy" -> i == 0 ? someone() : i == 1 ? random.nextInt(65538) : random.nextInt(92);
            case "preach" -> i == 0 ? someone() : random.nextInt(4) - 1;
            case "sit", "may" -> i == 0 ? someone() : someBench();
            case "back" -> random.nextInt(4);
            case "size" -> random.nextInt(15);
            default -> someone();
        };
    }

    /** Mostly one who is there, now and then the next number. */
    private int someone() {
        return random.nextInt(Math.max(1, model.call("size", 4) + (random.nextInt(8) == 0 ? 1 : 0)));
    }

    private int someBench() {
        return random.nextInt(Math.max(1, model.call("size", 3) + (random.nextInt(8) == 0 ? 1 : 0)));
    }

    // ---- texts

    private int tellRoom() {
        List<String> tokens = roomTokens();
        int spoilt = random.nextInt(3) == 0 ? 1 + random.nextInt(2) : 0;
        for (int i = 0; i < spoilt; i++) {
            spoil(tokens);
        }
        String text = join(tokens);
        if (text.length() > 1000) {
            text = text.substring(0, 1000);
        }
        if (random.nextInt(15) == 0) {
            text = text.substring(0, random.nextInt(text.length() + 1));
        }
        both("room", 0);
        story.append(text).append('\n');
        int calls = 2;
        for (int from = 0; from < text.length(); from += 20) {
            both("feed", Face.twenty(text, from));
            calls++;
        }
        both("room", random.nextInt(4) == 0 ? (text.length() + 19) / 20 * 20 : text.length());
        return calls;
    }

    private void spoil(List<String> tokens) {
        int at = random.nextInt(tokens.size());
        switch (random.nextInt(5)) {
            case 0 -> tokens.remove(at);
            case 1 -> tokens.add(at, WORDS[random.nextInt(WORDS.length)]);
            case 2 -> tokens.set(at, tokens.get(random.nextInt(tokens.size())));
            default -> tokens.set(at, WORDS[random.nextInt(WORDS.length)]);
        }
        if (tokens.isEmpty()) {
            tokens.add("room");
        }
    }

    private String join(List<String> tokens) {
        StringBuilder text = new StringBuilder();
        boolean tight = random.nextBoolean();
        for (String token : tokens) {
            boolean needed = text.length() > 0 && alike(text.charAt(text.length() - 1), token.charAt(0));
            if (needed || !tight && !token.equals(";") && text.length() > 0) {
                text.append(" ");
            }
            text.append(random.nextInt(80) == 0 ? "  " : "").append(token);
        }
        return text.toString();
    }

    private static boolean alike(char a, char b) {
        return Character.isLetter(a) && Character.isLetter(b) || Character.isDigit(a) && Character.isDigit(b);
    }

    private void line(List<String> tokens, Object... parts) {
        if (!tokens.isEmpty()) {
            tokens.add(";");
        }
        for (Object part : parts) {
            tokens.addAll(Arrays.asList(part.toString().split(" ")));
        }
    }

    /** Mostly a good room, now and then one that tells too much, or something twice. */
    private List<String> roomTokens() {
        List<String> tokens = new ArrayList<>();
        int wide = 1 + random.nextInt(pick(3, 5, 9, 9));
        int tall = 1 + random.nextInt(pick(3, 5, 9, 9));
        line(tokens, "room wide", wide, "tall", tall, "stove", random.nextInt(wide), random.nextInt(tall), "heat",
            pick(1 + random.nextInt(60), 20, 30, 40, 50, 60), "stock", pick(random.nextInt(201), random.nextInt(30)));
        int benches = random.nextInt(12) == 0 ? 7 : 1 + random.nextInt(pick(2, 6, 6));
        for (int b = 0; b < benches; b++) {
            line(tokens, "bench", "b" + (char) ('a' + b), new String[] {"open", "upper", "island"}[random.nextInt(3)],
                "at", random.nextInt(wide), random.nextInt(tall), "seats", 1 + random.nextInt(3), "rent",
                pick(random.nextInt(31), random.nextInt(4)));
        }
        int people = random.nextInt(12) == 0 ? 8 : pick(random.nextInt(8), 4 + random.nextInt(4));
        for (int p = 0; p < people; p++) {
            line(tokens, "person", "p" + (char) ('a' + p),
                new String[] {"third", "first", "lady", "child"}[random.nextInt(4)], "for",
                new String[] {"rome", "york", "room", "on"}[random.nextInt(pick(1, 2, 4))], "cold",
                pick(random.nextInt(61), random.nextInt(20), 0));
            if (random.nextInt(8) == 0) {
                tokens.add("on");
                tokens.add("b" + (char) ('a' + random.nextInt(benches)));
            }
        }
        if (people > 0) {
            tellMore(tokens, people);
        }
        int hours = random.nextInt(10);
        int between = 2 + random.nextInt(11);
        int first = random.nextInt(between);
        for (int i = 0; i < hours; i++) {
            int hour = random.nextInt(100);
            boolean rumble = hour % between == first ? random.nextInt(20) != 0 : random.nextInt(20) == 0;
            line(tokens, rumble ? "rumble" : "quiet", hour);
        }
        return removeBadLines(tokens);
    }

    private void tellMore(List<String> tokens, int people) {
        int kin = random.nextInt(7);
        for (int i = 0; i < kin; i++) {
            line(tokens, "kin", somebody(people), somebody(people));
        }
        int heeds = random.nextInt(11);
        for (int i = 0; i < heeds; i++) {
            line(tokens, "heeds", somebody(people), somebody(people), "weight", pick(1 + random.nextInt(9), 1, 2));
        }
        for (int p = 0; p < people; p++) {
            int belief = random.nextInt(3);
            if (belief > 0) {
                line(tokens, belief == 1 ? "believes" : "denies", "p" + (char) ('a' + p));
            }
        }
    }

    private String somebody(int people) {
        return "p" + (char) ('a' + random.nextInt(people));
    }

    /** Mostly takes out the LINES at which the Model finds a FAULT, so that most rooms can be told. */
    private List<String> removeBadLines(List<String> tokens) {
        List<List<String>> lines = new ArrayList<>();
        lines.add(new ArrayList<>());
        for (String token : tokens) {
            if (token.equals(";")) {
                lines.add(new ArrayList<>());
            } else {
                lines.get(lines.size() - 1).add(token);
            }
        }
        boolean keepBad = random.nextInt(6) == 0;
        List<String> good = new ArrayList<>(lines.get(0));
        for (List<String> next : lines.subList(1, lines.size())) {
            List<String> longer = new ArrayList<>(good);
            longer.add(";");
            longer.addAll(next);
            int fault = 0;
            try {
                new Model.Parser(String.join(" ", longer)).parse();
            } catch (Model.Fault f) {
                fault = f.number;
            }
            if (fault == 0 || keepBad || fault == 6) {
                good = longer;
            }
        }
        return good;
    }
}
