import java.util.ArrayList;
import java.util.Arrays;
import java.util.List;

/**
 * A boundary case of the document: the promise, the sentence that names it, and the calls that show it.
 * What was refused is left out of a second run of the same calls, and both runs are asked the same then:
 * a refused call that changed something shows as a difference.
 */
public final class Edge {
    /** The document allows an object so many calls; an edge that needs more would show nothing. */
    public static final int MOST_CALLS = 512;

    /** One call with what it is asked. */
    public record Call(String name, int... asked) {
        int on(BirthdayLot lot) {
            return Calls.ask(lot, name, asked);
        }

        String told() {
            String list = Arrays.toString(asked);
            return name + "(" + list.substring(1, list.length() - 1) + ")";
        }
    }

    private final Check check;
    private final String label;
    private final BirthdayLot lot = new BirthdayLot();
    private final List<Call> made = new ArrayList<>();
    private final List<Call> taken = new ArrayList<>();
    private boolean faultMoved;

    Edge(Check check, int promise, String sentence) {
        this.check = check;
        this.label = "promise " + promise + " <" + sentence + "> ";
    }

    private int make(Call call, boolean isTaken) {
        made.add(call);
        if (isTaken) taken.add(call);
        return call.on(lot);
    }

    /** The call answers so. */
    public Edge due(int want, String name, int... asked) {
        Call call = new Call(name, asked);
        check.due(label + call.told(), make(call, true), want);
        return this;
    }

    /** The call is refused so, and (at the end) changed nothing. */
    public Edge refused(int want, String name, int... asked) {
        Call call = new Call(name, asked);
        check.isTrue(label + call.told() + " is to be refused", want <= Check.UNKNOWN && want >= Check.FULL);
        check.due(label + call.told(), make(call, false), want);
        return this;
    }

    /** The call is made n times; what it answers is not looked at, but it is not refused. */
    public Edge times(int n, String name, int... asked) {
        Call call = new Call(name, asked);
        for (int i = 0; i < n; i++) check.isTrue(label + call.told() + " is not refused", make(call, true) > Check.UNKNOWN);
        return this;
    }

    public Edge letters(String text) {
        for (int i = 0; i < text.length(); i++) times(1, "feed", text.charAt(i));
        return this;
    }

    /** The text becomes the town: as many people as it has words 'p'. */
    public Edge town(String text) {
        int people = (int) text.chars().filter(letter -> letter == 'p').count();
        return letters(text).due(people, "town").due(Check.NONE, "fault");
    }

    /** The text has this fault there, is gone, and (at the end) left the town as it was. */
    public Edge faulty(String text, int kind, int at) {
        faultMoved = true;
        for (int i = 0; i < text.length(); i++) make(new Call("feed", text.charAt(i)), false);
        check.due(label + "town() of <" + text + ">", make(new Call("town"), false), -10 - kind);
        check.due(label + "fault() of <" + text + ">", make(new Call("fault"), false), at);
        check.due(label + "told(2) behind <" + text + ">", make(new Call("told", 2), false), 0);
        return this;
    }

    /** person(p, what) of all people, in their order. */
    public Edge people(int what, int... due) {
        for (int p = 0; p < due.length; p++) due(due[p], "person", p, what);
        return this;
    }

    /** ticket(t, what) of all tickets, in their order. */
    public Edge tickets(int what, int... due) {
        for (int t = 0; t < due.length; t++) due(due[t], "ticket", t, what);
        return this;
    }

    void end() {
        check.isTrue(label + "needs " + made.size() + " calls", !made.isEmpty() && made.size() <= MOST_CALLS);
        if (made.size() == taken.size()) return;
        BirthdayLot shape = again(taken);
        Probes probes = new Probes(shape.told(0), shape.told(1), shape.told(13), !faultMoved);
        for (List<Call> probe : probes.all()) compare(probe);
    }

    private void compare(List<Call> probe) {
        check.isTrue(label + "needs too many calls with its probes", made.size() + probe.size() <= MOST_CALLS);
        BirthdayLot with = again(made);
        BirthdayLot without = again(taken);
        for (Call call : probe) check.due(label + "behind what was refused: " + call.told(), call.on(with), call.on(without));
    }

    private static BirthdayLot again(List<Call> calls) {
        BirthdayLot fresh = new BirthdayLot();
        for (Call call : calls) call.on(fresh);
        return fresh;
    }
}
