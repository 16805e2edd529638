import java.util.ArrayList;
import java.util.Arrays;
import java.util.List;

/** A text and the steps behind it, from which any number of like objects can be made. */
final class Scene {
    private final String text;
    private final String[] steps;

    /** A step is a call with its numbers, or "tape:" and a text that comes onto THE TAPE; without a text there is no ROOM. */
    Scene(String text, String... steps) {
        this.text = text;
        this.steps = steps;
    }

    Scene then(String... more) {
        String[] all = Arrays.copyOf(steps, steps.length + more.length);
        System.arraycopy(more, 0, all, steps.length, more.length);
        return new Scene(text, all);
    }

    Actor make() {
        Actor actor = new Actor();
        if (!text.isEmpty() && actor.tell(text) == BenchColony.NONE) {
            throw new IllegalStateException("a test's own text is faulty: " + text);
        }
        for (String step : steps) {
            actor.call(step);
        }
        return actor;
    }

    /** One object, used by steps told as texts, and never beyond the calls that the document promises. */
    static final class Actor {
        static final int MOST_CALLS = 512;
        /** Ways to look at all that an object holds; each may change it, so each wants an object of its own. */
        static final String[] LOOKS = {"what it answers", "what can be undone", "its images", "its tape"};

        private final BenchColony colony = new BenchColony();
        private int calls;

        int calls() {
            return calls;
        }

        int call(String step) {
            if (step.startsWith("tape:")) {
                tape(step.substring(5));
                return 0;
            }
            String[] parts = step.split(" ");
            int[] numbers = new int[parts.length - 1];
            for (int i = 0; i < numbers.length; i++) {
                numbers[i] = Integer.parseInt(parts[i + 1]);
            }
            return call(parts[0], numbers);
        }

        private int call(String name, int... numbers) {
            calls++;
            if (calls > MOST_CALLS) {
                throw new IllegalStateException("a test makes more than " + MOST_CALLS + " calls on an object");
            }
            return Face.call(colony, name, numbers);
        }

        void tape(String text) {
            for (int from = 0; from < text.length(); from += 20) {
                call("feed", Face.twenty(text, from));
            }
        }

        int tell(String text) {
            tape(text);
            return call("room", text.length());
        }

        List<Integer> look(int way) {
            List<Integer> seen = new ArrayList<>();
            switch (way) {
                case 0 -> lookAround(seen);
                case 1 -> {
                    for (int i = 0; i < 17; i++) {
                        seen.add(call("undo"));
                        lookAtNow(seen);
                    }
                }
                case 2 -> {
                    for (int image = 0; image < 4; image++) {
                        seen.add(call("back", image));
                        lookAtNow(seen);
                    }
                }
                default -> {
                    seen.add(call("size", 13));
                    seen.add(call("room", seen.get(0)));
                    seen.add(call("fault"));
                    seen.add(call("where"));
                    lookAtNow(seen);
                }
            }
            return seen;
        }

        private void lookAround(List<Integer> seen) {
            for (int what = 0; what < 14; what++) {
                seen.add(call("size", what));
            }
            for (int b = 0; b < 6; b++) {
                for (int what = 0; what < 7; what++) {
                    seen.add(call("bench", b, what));
                }
            }
            for (int p = 0; p < 7; p++) {
                for (int what = 0; what < 6; what++) {
                    seen.add(call("person", p, what));
                }
                seen.add(call("mayMarry", p));
                seen.add(call("drawn", p));
                seen.add(call("led", p));
            }
            for (int i = 0; i < 6; i++) {
                seen.add(call("trainAt", i));
            }
        }

        /** All that ACTS can change. */
        private void lookAtNow(List<Integer> seen) {
            for (int p = 0; p < 7; p++) {
                seen.add(call("person", p, 2));
                seen.add(call("person", p, 4));
            }
            for (int what = 9; what <= 11; what++) {
                seen.add(call("size", what));
            }
        }
    }
}
