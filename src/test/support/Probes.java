import java.util.ArrayList;
import java.util.List;

/**
 * Runs of calls that show all that an object holds, each for an object of its own: what it tells, what is
 * tried, what was seen, THE SEED, the draws that can be undone, the images, THE TEXT.
 */
public final class Probes {
    private final int people, tickets, undoable;
    private final boolean withFault;
    private List<Edge.Call> probe;

    Probes(int people, int tickets, int undoable, boolean withFault) {
        this.people = people;
        this.tickets = tickets;
        this.undoable = undoable;
        this.withFault = withFault;
    }

    List<List<Edge.Call>> all() {
        return List.of(told(), tried(), seen(), seed(), undone(), image(0), image(1), text());
    }

    private void ask(String name, int... asked) {
        probe.add(new Edge.Call(name, asked));
    }

    private void begin() {
        probe = new ArrayList<>();
    }

    private List<Edge.Call> told() {
        begin();
        if (withFault) ask("fault");
        askTown();
        return probe;
    }

    private void askTown() {
        for (int what = 0; what <= 13; what++) ask("told", what);
        for (int r = 0; r < 4; r++) ask("right", r);
        for (int p = 0; p < people; p++) for (int what = 0; what < 5; what++) ask("person", p, what);
        for (int t = 0; t < tickets; t++) for (int what = 0; what < 4; what++) ask("ticket", t, what);
    }

    private List<Edge.Call> tried() {
        begin();
        for (int p = 0; p < people; p++) {
            ask("odds", p, 1);
            ask("never", p, 1);
            ask("couples", 99, p);
            for (int right = 0; right < 4; right++) ask("buy", p, right, 50, 1);
        }
        ask("evens", 3, 0);
        ask("evens", 3, 1);
        return probe;
    }

    private List<Edge.Call> seen() {
        begin();
        for (int t = -1; t < tickets; t++) ask("belief", t);
        ask("likeliest");
        for (int m = 1; m <= 3; m++) {
            for (int i = -1; i < m; i++) ask("rows", m, i);
            ask("sure", m);
        }
        ask("judge");
        for (int p = 0; p < people; p++) ask("ageBy", p);
        ask("tear");
        return probe;
    }

    private List<Edge.Call> seed() {
        begin();
        ask("lots", 3);
        ask("seed", 0);
        askTown();
        return probe;
    }

    private List<Edge.Call> undone() {
        begin();
        ask("undo", 1);
        askTown();
        if (undoable > 1) ask("undo", undoable - 1);
        askTown();
        ask("undo", 1);
        return probe;
    }

    private List<Edge.Call> image(int i) {
        begin();
        ask("goBack", i);
        ask("seed", 0);
        askTown();
        return probe;
    }

    private List<Edge.Call> text() {
        begin();
        ask("town");
        ask("fault");
        askTown();
        return probe;
    }
}
