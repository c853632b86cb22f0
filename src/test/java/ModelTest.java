import java.util.ArrayDeque;
import java.util.ArrayList;
import java.util.Deque;
import java.util.List;
import java.util.Random;

/** Random texts and runs of calls, RightKeys beside the Model. */
public final class ModelTest {
    private static final String[] VARS = {"hour", "day", "waited", "temper", "other", "which", "inside", "outside", "keys"};
    private static final String[] NAMES = {"a", "bo", "cid", "dora", "egbert", "houses", "g", "abcdefgh"};

    private final Random random;
    private final RightKeys keys = new RightKeys();
    private final String text;
    private Model model;
    private final Deque<Model> past = new ArrayDeque<>();
    private final Model[] slots = new Model[3];
    private final List<int[]> told = new ArrayList<>();
    private final String run;
    private String done = "";

    private ModelTest(long number) {
        random = new Random(number);
        text = text();
        run = "run " + number + " of " + text;
        Calls.feed(keys, text);
        Calls.due(run + ": read", keys.read(), 0);
        model = Model.of(text);
    }

    public static void main(String[] args) {
        int runs = args.length > 0 ? Integer.parseInt(args[0]) : 60;
        for (int i = 0; i < runs; i++) {
            ModelTest test = new ModelTest(i);
            for (int j = 0; j < 40; j++) {
                test.act();
                test.look();
            }
        }
        Calls.end();
    }

    // ---- texts

    private int up(int n) { return random.nextInt(n); }

    private String text() {
        StringBuilder b = new StringBuilder();
        int n = up(8) == 0 ? 1 + up(2) : 1 + up(8);
        boolean close = up(2) == 0;
        for (int i = 0; i < n; i++) {
            int go = close ? 8 + up(3) : up(24);
            int come = close ? 15 + up(5) : up(24);
            b.append("house ").append(NAMES[i]).append(' ').append(go).append(' ').append(come).append(' ').append(up(10)).append(';');
        }
        for (int i = up(4); i > 0; i--) b.append("spare ").append(NAMES[up(n)]).append(' ').append(NAMES[up(n)]).append(';');
        for (int i = 0; i < n; i++) if (up(4) == 0) b.append("both ").append(NAMES[i]).append(";\n");
        if (up(3) > 0) b.append("lets=").append(up(2) == 0 ? "temper + waited - " + up(9) : law()).append(';');
        if (up(2) == 0) b.append("quarrel=").append(law()).append(';');
        if (up(2) == 0) b.append("rent=").append(law()).append(';');
        if (up(2) == 0) b.append("late=").append(up(2) == 0 ? "" + up(101) : law()).append(';');
        if (up(2) == 0) b.append("seed ").append(up(10000)).append(';');
        return b.toString();
    }

    private String law() {
        StringBuilder b = new StringBuilder();
        for (int i = up(5) / 2; i > 0; i--) b.append("if ").append(sum(1)).append('<').append(sum(1)).append(" then ").append(sum(1)).append(" else ");
        return b.append(sum(0)).toString();
    }

    private String sum(int deep) {
        StringBuilder b = new StringBuilder(product(deep));
        for (int i = up(3); i > 0; i--) b.append(up(2) == 0 ? "+" : " - ").append(product(deep));
        return b.toString();
    }

    private String product(int deep) {
        StringBuilder b = new StringBuilder(unit(deep));
        for (int i = up(5) / 3; i > 0; i--) b.append(up(2) == 0 ? "*" : "/").append(unit(deep));
        return b.toString();
    }

    private String unit(int deep) {
        if (deep < 3 && up(6) == 0) return "(" + sum(deep + 1) + ")";
        if (up(3) == 0) return up(20) == 0 ? "9999" : "" + up(13);
        return VARS[up(VARS.length)];
    }

    // ---- things done

    private void keepPast(Model before) {
        past.push(before);
        if (past.size() > 40) past.removeLast();
    }

    private void act() {
        Model before = model.copy();
        int n = model.people.size();
        switch (up(10)) {
            case 0 -> keep(before, up(n + 1), up(3) > 0);
            case 1 -> pass(before, up(4), up(n + 1) - 1);
            case 2 -> change(before, up(n), up(n));
            case 3 -> undo();
            case 4 -> slot(up(3), up(2) == 0);
            case 5 -> tell(up(n), up(2) == 0);
            default -> hours(before, up(3) == 0 ? up(73) : up(9));
        }
    }

    private void note(String what) { done = done + " " + what; }

    private void check(String call, long got, long want) {
        if (got != want) Calls.due(run + done + ": " + call, got, want);
        else Calls.due("", 0, 0);
    }

    private void keep(Model before, int house, boolean in) {
        boolean can = house < model.people.size() && model.people.get(house).kept != in;
        note("keep(" + house + "," + in + ")");
        check("keep", keys.keep(house, in) ? 1 : 0, can ? 1 : 0);
        if (can) {
            model.people.get(house).kept = in;
            keepPast(before);
        }
    }

    private void pass(Model before, int spare, int house) {
        Integer goal = house < 0 ? null : (Integer) house;
        boolean can = spare < model.keys.size() && !java.util.Objects.equals(model.keys.get(spare).goal, goal);
        note("pass(" + spare + "," + house + ")");
        check("pass", keys.pass(spare, house) ? 1 : 0, can ? 1 : 0);
        if (can) {
            model.keys.get(spare).goal = goal;
            keepPast(before);
        }
    }

    private void change(Model before, int a, int b) {
        boolean can = a != b && model.people.get(a).where == 'i' && model.people.get(b).where == 'i';
        note("change(" + a + "," + b + ")");
        check("change", keys.change(a, b) ? 1 : 0, can ? 1 : 0);
        if (can) {
            model.swap(a, b);
            keepPast(before);
        }
    }

    private void hours(Model before, int n) {
        note("hours(" + n + ")");
        for (int i = 0; i < n; i++) model.step();
        check("hours", keys.hours(n), model.hour);
        if (n > 0) keepPast(before);
    }

    private void undo() {
        note("undo()");
        check("undo", keys.undo() ? 1 : 0, past.isEmpty() ? 0 : 1);
        if (!past.isEmpty()) model = past.pop();
    }

    private void slot(int slot, boolean hold) {
        note((hold ? "hold(" : "restore(") + slot + ")");
        if (hold) {
            check("hold", keys.hold(slot) ? 1 : 0, 1);
            slots[slot] = model.copy();
        } else {
            check("restore", keys.restore(slot) ? 1 : 0, slots[slot] == null ? 0 : 1);
            if (slots[slot] != null) {
                model = slots[slot].copy();
                past.clear();
            }
        }
    }

    private void tell(int house, boolean stood) {
        note("tell(" + house + "," + stood + ")");
        check("tell", keys.tell(house, stood), told.size());
        told.add(new int[] {house, stood ? 1 : 0});
    }

    // ---- questions

    private void look() {
        int n = model.people.size();
        for (int i = 0; i < n; i++) lookAtHouse(i);
        for (int i = 0; i < model.keys.size(); i++) lookAtSpare(i);
        lookAtCounts();
        lookAhead(up(n), 1 + up(72));
        lookDeep(up(n), up(73), 1 + up(20));
        lookAtTold(up(told.size() + 1));
    }

    private void lookAtHouse(int i) {
        Model.Person p = model.people.get(i);
        int[] want = {p.go, p.come, p.temper, "ios".indexOf(p.where), p.waited, p.kept ? 1 : 0,
            model.both.get(i) ? 1 : 0, p.name, p.late ? 1 : 0, model.rent(i)};
        for (int what = 0; what < 10; what++) check("house(" + i + "," + what + ")", keys.house(i, what), want[what]);
        check("openers " + i, keys.openers(i), model.openers(i));
        check("by " + i, keys.by(i), model.by.get(i));
        int other = up(model.people.size());
        check("lets " + i + " " + other, keys.lets(i, other), i == other ? -1 : model.letsIn(i, other) ? 1 : 0);
        check("frees " + i, keys.frees(i), model.frees(i));
        check("soonest " + i, keys.soonest(i, 0), model.soonest(i, 0));
        check("soonest's days " + i, keys.soonest(i, 1), model.soonest(i, 1));
    }

    private void lookAtSpare(int i) {
        Model.Key k = model.keys.get(i);
        check("spare 0", keys.spare(i, 0), k.door);
        check("spare 1", keys.spare(i, 1), k.box);
        check("spare 2", keys.spare(i, 2), k.goal == null ? -2 : k.goal);
        int house = up(model.people.size());
        check("days", keys.days(i, house), model.days(i, house));
        check("gain", keys.gain(i), model.gain(i));
    }

    private void lookAtCounts() {
        int kept = 0, goals = 0, held = 0;
        for (int i = 0; i < model.people.size(); i++) kept |= model.people.get(i).kept ? 1 << i : 0;
        for (int i = 0; i < model.keys.size(); i++) goals |= model.keys.get(i).goal != null ? 1 << i : 0;
        for (Model m : slots) held += m != null ? 1 : 0;
        int[] want = {model.people.size(), model.keys.size(), model.hour, model.hour % 24, model.bits('i'), model.bits('o'),
            model.bits('s'), model.quarrels, kept, 0, past.size(), told.size(), held, model.letIns, model.spareIns, goals,
            model.rents(), -1};
        for (int what = 0; what < want.length; what++) check("count(" + what + ")", keys.count(what), want[what]);
    }

    private void lookAhead(int house, int n) {
        int[] rows = model.rows(n);
        int first = -2, peak = 0;
        for (int i = n - 1; i >= 0; i--) {
            if (rows[i] != 0) first = i;
            if (Integer.bitCount(rows[i]) >= Integer.bitCount(rows[peak])) peak = i;
        }
        for (int i = 0; i <= peak; i++) if (Integer.bitCount(rows[i]) == Integer.bitCount(rows[peak])) peak = i;
        int worst = 0;
        for (int i = 1; i < model.people.size(); i++) if (model.standOf(i, n) > model.standOf(worst, n)) worst = i;
        check("stand all " + n, keys.stand(-1, n), model.standAll(n));
        check("stand " + house + " " + n, keys.stand(house, n), model.standOf(house, n));
        check("firstStand " + n, keys.firstStand(n), first);
        check("peak 0 " + n, keys.peak(n, 0), peak);
        check("peak 1 " + n, keys.peak(n, 1), Integer.bitCount(rows[peak]));
        check("worst 0 " + n, keys.worst(n, 0), worst);
        check("worst 1 " + n, keys.worst(n, 1), model.standOf(worst, n));
        check("shut " + house, keys.shut(house), model.shut(house));
    }

    private void lookDeep(int house, int n, int s) {
        Model then = model.behind(n);
        check("rents " + n, keys.rents(n), then.rents());
        check("then 0 " + n, keys.then(house, n, 0), "ios".indexOf(then.people.get(house).where));
        check("then 1 " + n, keys.then(house, n, 1), then.people.get(house).waited);
        check("then 2 " + n, keys.then(-9, n, 2), then.quarrels - model.quarrels);
        check("year " + n + " " + s, keys.year(n, s), model.year(n, s));
        if (up(4) == 0) {
            check("shift 0 " + house, keys.shift(house, 0), model.shift(house, 0));
            check("shift 1 " + house, keys.shift(house, 1), model.shift(house, 1));
            check("changeBest 0", keys.changeBest(0), model.changeBest(0));
            check("changeBest 1", keys.changeBest(1), model.changeBest(1));
        }
        if (up(20) == 0) {
            check("stay 0", keys.stay(0), model.stay(0));
            check("stay 1", keys.stay(1), model.stay(1));
        }
    }

    private void lookAtTold(int k) {
        List<int[]> known = told.subList(0, k);
        int left = model.overslept(known);
        check("overslept 0 " + k, keys.overslept(k, 0), Integer.bitCount(left));
        check("overslept 1 " + k, keys.overslept(k, 1), left);
        if (up(5) == 0) check("ask " + k, keys.ask(k), model.ask(known));
        if (told.size() > 3 && up(3) == 0) {
            note("forget()");
            check("forget", keys.forget(), told.size());
            told.clear();
        }
    }
}
