import java.util.ArrayList;
import java.util.List;

/**
 * Calls told as texts, by which a new object is brought to where a test wants it, as often as it is wanted.
 * "sway(0, 9)" is that call; "boat: .." and "years: .." feed the text and take it; "tape: .." feeds it alone;
 * "7 times sway(0, 9)" is the call so often.
 */
final class Stage {
    private final List<String> calls = new ArrayList<>();

    Stage(String... calls) {
        this.calls.addAll(List.of(calls));
    }

    Stage then(String... more) {
        Stage longer = new Stage(more);
        longer.calls.addAll(0, calls);
        return longer;
    }

    <T extends Asked> T play(T who) {
        for (String call : calls) {
            say(who, call);
        }
        return who;
    }

    Real real() {
        return play(new Real());
    }

    static long say(Asked who, String call) {
        int times = call.indexOf(" times ");
        if (times > 0) {
            long answer = 0;
            for (int i = Integer.parseInt(call.substring(0, times)); i > 0; i--) {
                answer = say(who, call.substring(times + 7));
            }
            return answer;
        }
        int colon = call.indexOf(": ");
        if (colon > 0) {
            String name = call.substring(0, colon);
            String text = call.substring(colon + 2);
            return name.equals("tape") ? feed(who, text) : take(who, name, text);
        }
        return who.ask(nameOf(call), argumentsOf(call));
    }

    static String nameOf(String call) {
        return call.replaceFirst("[(:].*$", "");
    }

    private static long[] argumentsOf(String call) {
        String inside = call.substring(call.indexOf('(') + 1, call.length() - 1).trim();
        if (inside.isEmpty()) {
            return new long[0];
        }
        String[] parts = inside.split(" *, *");
        long[] a = new long[parts.length];
        for (int i = 0; i < a.length; i++) {
            a[i] = parts[i].equals("true") ? 1 : parts[i].equals("false") ? 0 : Long.parseLong(parts[i]);
        }
        return a;
    }

    /** The text is filled up with bytes 0 to a multiple of twenty. */
    static long feed(Asked who, String text) {
        int[] bytes = Check.bytesOf(text);
        long many = 0;
        for (int i = 0; i < bytes.length; i += 20) {
            many = who.ask("feed", Check.four(bytes, i), Check.four(bytes, i + 4), Check.four(bytes, i + 8),
                    Check.four(bytes, i + 12), Check.four(bytes, i + 16));
        }
        return many;
    }

    static long take(Asked who, String name, String text) {
        long many = feed(who, text);
        if (many != (text.length() + 19) / 20 * 20) {
            throw new IllegalStateException("the test's own: the tape was not empty, or has no room: " + text);
        }
        return who.ask(name, text.length());
    }
}
