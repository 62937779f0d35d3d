import java.util.ArrayList;
import java.util.List;
import java.util.TreeSet;

/**
 * Every call at every stage with all numbers around its bounds, one with another, and texts with every small change:
 * answer, STATUS and all that can be seen behind it are held against the model. So of several STATUSES, or FAULTS,
 * that could be told the first must be, wherever two meet.
 */
public final class SweepTest {
    private static final Edge edge = new Edge();
    // A look at the model takes long: of the calls that are taken each so manieth is looked at behind.
    private static final int LOOKS = 7;

    // t a tray, s a sort, p a person, o an omen, P and O sets of them, b a boolean, v a number for a tray, else from .. to.
    private static final String[] CALLS = {"tray t s 0..60", "write t 0..5 v", "read t 0..5", "pour t 0..3 t 0..3 0..3", "boat 0..20",
        "years 0..20", "told 0..8", "omen o 0..2", "person p 0..6", "call", "show o b", "board p", "sway p 0..9", "excuse p o b",
        "see p p b", "paint o 1..5", "come 0..9", "rule 2..4 0..16", "rule 2..4 0..3", "rule 2..4 1..9", "need p O", "roundOf p O",
        "outBy O", "restBy O", "rounds O", "atRest P O", "rests O", "greatest O", "seeds O", "seedSet O", "weight p O", "keystone O",
        "lures p", "lureSet p", "best", "bestOut", "never", "outIn 0..60", "outAt p", "holdIn p 0..60", "fits p t 0..20",
        "fits p t 0..3", "fitsAt p t 0..3 0..1", "ask p t 0..20", "ask p t 0..3", "lookouts", "lookoutSet", "couples", "game 0..3",
        "moveOf 1..3", "tides 0..12 0..12", "sloth p", "copyHolds t", "live 0..9999", "lived 0..4", "mean 0..9999 1..20",
        "mean 9981..9999 1..20", "mark", "undo"};

    private static final Stage[] STAGES = {Stages.NEW, Stages.TAPED, Stages.FULL, Stages.ALL_OUT, Stages.NO_OMENS, Stages.LAST,
        Stages.TAPED.then("mark()", "tray(3, 3, 0)"),
        Stages.FULL.then("tray(0, 1, 2)", "tray(1, 2, 40)", "write(1, 1, 255)", "tray(2, 0, 8)", "tray(3, 0, 7)", "rule(2, 1)", "call()",
                "tape: plank 9;any;"),
        Stages.TAPED.then("board(1)", "board(3)", "write(0, 0, 3)", "write(0, 1, 15)", "write(0, 2, 2)", "write(0, 3, 16)"),
        Stages.RICH.then("boat(0)")};

    public static void main(String[] args) {
        for (Stage stage : STAGES) {
            for (String row : CALLS) {
                sweep(stage, row);
            }
        }
        texts();
        edge.end(5, 6, 7, 8, 10, 11, 13, 14, 15, 16, 17, 18, 19, 20, 21, 22, 23, 24, 25, 26, 27, 28, 29, 30, 31, 32, 33, 34, 35, 36, 37, 38, 39,
                40, 41, 42, 43, 44, 45, 46, 47, 48, 49, 50, 51, 52, 53, 54, 55, 56, 57, 58, 59, 60);
    }

    private static void sweep(Stage stage, String row) {
        String[] kinds = row.split(" ");
        Model model = stage.play(new Model());
        List<long[]> edges = new ArrayList<>();
        for (int i = 1; i < kinds.length; i++) {
            edges.add(edgesOf(kinds[i], model, kinds.length < 4));
        }
        int[] at = new int[edges.size()];
        int many = 1;
        for (long[] e : edges) {
            many *= e.length;
        }
        for (int i = 0; i < many; i++) {
            int rest = i;
            long[] a = new long[at.length];
            for (int k = 0; k < a.length; k++) {
                a[k] = edges.get(k)[rest % edges.get(k).length];
                rest /= edges.get(k).length;
            }
            boolean kept = one(stage, model, kinds[0], a, i);
            model = kept ? model : stage.play(new Model());
        }
    }

    private static long[] edgesOf(String kind, Model model, boolean far) {
        int people = model.now.people.size();
        int omens = model.now.omens.size();
        TreeSet<Long> set = new TreeSet<>();
        switch (kind) {
            case "t":
            case "s": addAround(set, 0, 3); set.add(2L); break;
            case "p": addAround(set, 0, people - 1); break;
            case "o": addAround(set, 0, omens - 1); break;
            case "P": addAround(set, 0, (1 << people) - 1); set.add((long) Model.bits(model.now.aboard())); set.add(256L); break;
            case "O": addAround(set, 0, (1 << omens) - 1); set.add(64L); break;
            case "b": set.addAll(List.of(0L, 1L)); break;
            case "v": set.addAll(List.of(-1L, 127L, 128L, 1L << 32, Long.MIN_VALUE)); break;
            default: addAround(set, Integer.parseInt(kind.split("\\.\\.")[0]), Integer.parseInt(kind.split("\\.\\.")[1]));
        }
        if (far && !kind.equals("b")) {
            set.add((long) Integer.MIN_VALUE);
            set.add((long) Integer.MAX_VALUE);
        }
        return set.stream().mapToLong(Long::longValue).toArray();
    }

    private static void addAround(TreeSet<Long> set, long least, long most) {
        for (long v : new long[] {least, most}) {
            set.add(v - 1);
            set.add(v);
            set.add(v + 1);
        }
    }

    /** Whether the model may be asked again: it is as it was. */
    private static boolean one(Stage stage, Model model, String name, long[] a, int number) {
        StringBuilder call = new StringBuilder(name).append('(');
        for (int i = 0; i < a.length; i++) {
            call.append(i == 0 ? "" : ", ").append(a[i]);
        }
        call.append(')');
        int promise = Promises.of(name);
        Real real = stage.real();
        long want = model.ask(name, a);
        edge.due(promise, call.toString(), real.ask(name, a), want);
        edge.due(promise, call + " status()", real.ask("status"), (long) model.status);
        if (model.status != 0 && model.status != 9) {
            edge.unchanged(promise, stage, call.toString(), real);
            return true;
        }
        if (number % LOOKS == 0) {
            edge.same(promise, "behind " + call, Look.at(real, true), Look.at(model, true));
        }
        return false;
    }

    // ---- texts

    private static final String[] BOATS = {
        "plank 9;habit 0;odds 16;sign a pulls 5 shown;person p holds 0 out against a;person qr holds 9;blind p qr;",
        "sign a pulls 1;sign b pulls 1;sign c pulls 1;sign d pulls 1;sign e pulls 1;sign f pulls 1;person p holds 1 against f e d c b a;",
        "person a holds 1;person b holds 1;person c holds 1;person d holds 1;person e holds 1;person f holds 1;person g holds 1;"
            + "person h holds 1;blind a h;"};
    private static final String[] YEARS = {
        "call;show a;hide b;board p;sway q 9;any;when out r;stop;end;loop 99;end;",
        "loop 1;when holds p < 9;when shows a;call;end;end;end;when holds p=0;end;when holds p>3;end;",
        "any;".repeat(26) + "loop 1;loop 1;loop 1;any;end;end;end;"};
    private static final String[] BITS = {"", " ", "\n", "a", "p", "z", "q", "0", "9", "00", "1000", ";", "<", "=", "?", "\t", "" + (char) 0,
        "" + (char) 255, " a ", " p ", " plank ", " end ", " any;", " loop 1;", "sign z", "person z", " 99999 ", "abcdefghi", "blind p p;",
        "odds 3;"};

    private static void texts() {
        for (String boat : BOATS) {
            changes("boat", boat);
        }
        for (String years : YEARS) {
            changes("years", years);
        }
    }

    /** Each beginning of a text; each bit put in between, or in place of a byte, or of three. */
    private static void changes(String name, String text) {
        for (int at = 0; at <= text.length(); at++) {
            text(name, text.substring(0, at));
            for (String bit : BITS) {
                for (int out : new int[] {0, 1, 3}) {
                    text(name, text.substring(0, at) + bit + text.substring(Math.min(text.length(), at + out)));
                }
            }
        }
    }

    private static void text(String name, String text) {
        int promise = Promises.of(name);
        Real real = new Real();
        Model model = new Model();
        String base = "sign a pulls 1;sign b pulls 1;person p holds 1;person q holds 1;person r holds 1;";
        if (name.equals("years")) {
            Stage.take(real, "boat", base);
            Stage.take(model, "boat", base);
        }
        String what = name + " of " + text;
        edge.due(promise, what, Stage.take(real, name, text), Stage.take(model, name, text));
        edge.due(promise, what + ", fault(0)", real.ask("fault", 0), model.ask("fault", 0));
        edge.due(promise, what + ", fault(1)", real.ask("fault", 1), model.ask("fault", 1));
        edge.due(promise, what + ", status()", real.ask("status"), (long) model.status);
        for (int tell = 0; tell <= 7; tell++) {
            edge.due(promise, what + ", told(" + tell + ")", real.ask("told", tell), model.ask("told", tell));
        }
    }
}
