import java.util.function.IntUnaryOperator;

/** Promises 6 to 37: for each call the last arguments that are taken, the first that are refused, and where there is nothing. */
public final class EdgeCallsTest {
    private static final int MIN = Integer.MIN_VALUE;
    private static final int MAX = Integer.MAX_VALUE;
    private static final String STUCK = "house a 1 3 0;house b 9 9 0;lets=0;";

    public static void main(String[] args) {
        house();
        houseWhere();
        houseKept();
        houseBoth();
        houseName();
        houseLate();
        spare();
        spareGoal();
        lets();
        letsOneAndTheSame();
        letsWherever();
        keep();
        keepIsSo();
        pass();
        passIsSo();
        change();
        changeNotBothIn();
        hours();
        hoursZero();
        undoNothing();
        undoEach();
        undoOneByOne();
        undoForty();
        openers();
        stand();
        firstStand();
        firstStandNever();
        stay();
        shift();
        changeBest();
        changeBestNone();
        frees();
        worst();
        worstWithoutHouses();
        peak();
        gain();
        by();
        byNobodyYet();
        days();
        soonest();
        rents();
        shut();
        then();
        thenHouseNotLookedAt();
        year();
        tell();
        tellTwenty();
        forget();
        overslept();
        ask();
        askNobody();
        hold();
        holdNotTold();
        restore();
        restoreNothing();
        restoreStays();
        count();
        countWhere();
        countBits();
        countUndone();
        countSlots();
        countLetIn();
        noHouses();
        calls512();
        Calls.end();
    }

    /** 8 HOUSES and 6 SPARES, with some people KEPT IN, OUT and OUTSIDE, a SPARE on its way, something TOLD and held. */
    private static RightKeys eight() {
        StringBuilder b = new StringBuilder();
        for (int i = 0; i < 8; i++) {
            b.append("house ").append((char) ('a' + i)).append(" ").append(i).append(" ").append(i + 3).append(" ").append(i).append(";");
        }
        RightKeys keys = Calls.told(b + "spare a b;spare h a;spare b b;spare c a;spare d e;spare h h;lets=temper-1;");
        keys.keep(6, true);
        keys.pass(1, 5);
        keys.hours(6);
        keys.tell(7, true);
        keys.hold(2);
        return keys;
    }

    /** A call of which low .. high are taken, all else answers refused and does nothing. */
    private static void taken(String name, int low, int high, int refused, IntUnaryOperator call) {
        Calls.due(name + ": " + low + " is taken", call.applyAsInt(low) != refused, true);
        Calls.due(name + ": " + high + " is taken", call.applyAsInt(high) != refused, true);
        for (int far : new int[] {low - 1, high + 1, high + 2, MIN, MIN + 1, MAX}) {
            Calls.due(name + ": " + far + " is refused", call.applyAsInt(far), refused);
        }
    }

    private static void answers(String name, IntUnaryOperator call, int... due) {
        for (int i = 0; i < due.length; i++) {
            Calls.due(name + " " + i, call.applyAsInt(i), due[i]);
        }
    }

    // ---- what is

    private static void house() {
        Calls.sentence("6: house, NONE for others");
        RightKeys keys = eight();
        taken("house", 0, 7, -1, n -> keys.house(n, 0));
        taken("what", 0, 9, -1, n -> keys.house(7, n));
        Calls.due("neither", keys.house(8, 10), -1);
    }

    private static void houseWhere() {
        Calls.sentence("6: 3: 0 IN, 1 OUT, 2 OUTSIDE, 4 waited");
        RightKeys keys = Calls.told(STUCK);
        int[] where = {0, 0, 1, 1, 2, 2, 2};
        int[] waited = {0, 0, 0, 0, 1, 2, 3};
        for (int hour = 0; hour < where.length; hour++) {
            Calls.due("where at " + hour, keys.house(0, 3), where[hour]);
            Calls.due("waited at " + hour, keys.house(0, 4), waited[hour]);
            keys.hours(1);
        }
    }

    private static void houseKept() {
        Calls.sentence("6: 5: 1 KEPT IN, else 0");
        RightKeys keys = eight();
        answers("kept", n -> keys.house(n, 5), 0, 0, 0, 0, 0, 0, 1, 0, -1);
    }

    private static void houseBoth() {
        Calls.sentence("6: 6: 1 its key is for BOTH, else 0");
        RightKeys keys = Calls.told("house a 1 2 3;house b 1 2 3;house c 1 2 3;both a;both c;");
        answers("both", n -> keys.house(n, 6), 1, 0, 1, -1);
    }

    private static void houseName() {
        Calls.sentence("6: 7 whose NAME (the number with which it was told) lives there");
        RightKeys keys = Calls.told("house a 1 2 3;house b 1 2 3;house c 1 2 3;");
        answers("name", n -> keys.house(n, 7), 0, 1, 2, -1);
        keys.change(0, 1);
        keys.change(1, 2);
        answers("name, changed", n -> keys.house(n, 7), 1, 2, 0, -1);
    }

    private static void houseLate() {
        Calls.sentence("6: 8: 1 LATE in the hour ahead, else 0");
        RightKeys keys = Calls.told(STUCK + "late=100;");
        int[] late = {0, 0, 0, 0, 1, 0, 0};
        for (int hour = 0; hour < late.length; hour++) {
            Calls.due("late at " + hour, keys.house(0, 8), late[hour]);
            keys.hours(1);
        }
    }

    private static void spare() {
        Calls.sentence("7: spare, NONE for others");
        RightKeys keys = eight();
        taken("spare", 0, 5, -1, n -> keys.spare(n, 0));
        taken("what", 0, 2, -1, n -> keys.spare(5, n));
        RightKeys none = Calls.told("house a 1 2 3;");
        Calls.due("no SPARES", none.spare(0, 0), -1);
    }

    private static void spareGoal() {
        Calls.sentence("7: 2 its goal (-2: none)");
        RightKeys keys = Calls.told("house a 1 2 3;house b 1 2 3;spare a b;");
        Calls.due("none", keys.spare(0, 2), -2);
        keys.pass(0, 0);
        Calls.due("the HOUSE 0", keys.spare(0, 2), 0);
        keys.pass(0, 1);
        Calls.due("where it is", keys.spare(0, 2), 1);
        keys.pass(0, -1);
        Calls.due("none again", keys.spare(0, 2), -2);
    }

    private static void lets() {
        Calls.sentence("8: NONE: no such ones");
        RightKeys keys = eight();
        taken("house", 0, 7, -1, n -> keys.lets(n, 3));
        taken("other", 0, 7, -1, n -> keys.lets(3, n));
        Calls.due("temper 2", keys.lets(2, 7), 1);
        Calls.due("temper 1", keys.lets(1, 7), 0);
    }

    private static void letsOneAndTheSame() {
        Calls.sentence("8: NONE: .. one and the same");
        RightKeys keys = eight();
        for (int n = 0; n < 8; n++) {
            Calls.due("lets(" + n + ", " + n + ")", keys.lets(n, n), -1);
        }
        Calls.due("alone", Calls.told("house a 1 2 3;").lets(0, 0), -1);
    }

    private static void letsWherever() {
        Calls.sentence("8: whoever CAN open, wherever they are");
        RightKeys keys = Calls.told("house a 0 5 0;house b 0 5 0;house c 0 5 0;house d 0 5 0;lets=1;");
        keys.hours(2);
        Calls.due("both OUT, not side by side", keys.lets(0, 2), 1);
        Calls.due("the right one, not BOTH", keys.lets(1, 0), 1);
    }

    // ---- what is done and undone

    private static void keep() {
        Calls.sentence("9: false, and nothing happens: .. no such HOUSE");
        RightKeys keys = eight();
        State.stays("keep", keys, () -> {
            for (int far : new int[] {-1, 8, 31, 32, 38, MIN, MAX}) {
                Calls.due("keep(" + far + ", true)", keys.keep(far, true), false);
                Calls.due("keep(" + far + ", false)", keys.keep(far, false), false);
            }
        });
        Calls.due("keep(0, true)", keys.keep(0, true), true);
        Calls.due("keep(7, true)", keys.keep(7, true), true);
        Calls.due("KEPT IN", keys.count(8), 128 + 64 + 1);
    }

    private static void keepIsSo() {
        Calls.sentence("9: false, and nothing happens: it is so");
        RightKeys keys = eight();
        State.stays("keep", keys, () -> {
            Calls.due("KEPT IN already", keys.keep(6, true), false);
            Calls.due("not KEPT IN", keys.keep(5, false), false);
        });
        Calls.due("no more", keys.keep(6, false), true);
        Calls.due("no more again", keys.keep(6, false), false);
    }

    private static void pass() {
        Calls.sentence("10: false, and nothing happens: .. no such ones");
        RightKeys keys = eight();
        State.stays("pass", keys, () -> {
            for (int far : new int[] {-1, 6, MIN, MAX}) {
                Calls.due("pass(" + far + ", 0)", keys.pass(far, 0), false);
                Calls.due("pass(" + far + ", NONE)", keys.pass(far, -1), false);
            }
            for (int far : new int[] {-2, -3, 8, MIN, MAX}) {
                Calls.due("pass(0, " + far + ")", keys.pass(0, far), false);
                Calls.due("pass(1, " + far + ")", keys.pass(1, far), false);
            }
        });
        Calls.due("pass(0, 0)", keys.pass(0, 0), true);
        Calls.due("pass(5, 7)", keys.pass(5, 7), true);
    }

    private static void passIsSo() {
        Calls.sentence("10: (NONE: none) .. false, and nothing happens: it is so");
        RightKeys keys = eight();
        State.stays("pass", keys, () -> {
            Calls.due("the same goal", keys.pass(1, 5), false);
            Calls.due("no goal", keys.pass(0, -1), false);
        });
        Calls.due("none", keys.pass(1, -1), true);
        Calls.due("none again", keys.pass(1, -1), false);
        Calls.due("where it is is a goal", keys.pass(0, 1), true);
    }

    private static void change() {
        Calls.sentence("11: false, and nothing happens: .. no such ones, one and the same");
        RightKeys keys = eight();
        State.stays("change", keys, () -> {
            for (int far : new int[] {-1, 8, 39, MIN, MAX}) {
                Calls.due("change(" + far + ", 7)", keys.change(far, 7), false);
                Calls.due("change(7, " + far + ")", keys.change(7, far), false);
            }
            Calls.due("change(7, 7)", keys.change(7, 7), false);
        });
        Calls.due("change(7, 6)", keys.change(7, 6), true);
        RightKeys first = Calls.told(STUCK);
        Calls.due("change(0, 1)", first.change(0, 1), true);
        Calls.due("change(1, 0)", first.change(1, 0), true);
    }

    private static void changeNotBothIn() {
        Calls.sentence("11: false, and nothing happens: not both IN");
        RightKeys out = Calls.told(STUCK);
        out.hours(2);
        State.stays("one OUT", out, () -> {
            Calls.due("change(0, 1)", out.change(0, 1), false);
            Calls.due("change(1, 0)", out.change(1, 0), false);
        });
        out.hours(2);
        State.stays("one OUTSIDE", out, () -> {
            Calls.due("change(0, 1)", out.change(0, 1), false);
            Calls.due("change(1, 0)", out.change(1, 0), false);
        });
        RightKeys both = Calls.told("house a 1 3 0;house b 1 3 0;lets=0;");
        both.hours(2);
        Calls.due("both OUT", both.change(0, 1), false);
        both.hours(2);
        Calls.due("both OUTSIDE", both.change(0, 1), false);
    }

    private static void hours() {
        Calls.sentence("12: n HOURS (0 .. 72 ..) go by: which it is, counted on; NONE, and nothing happens: no such n");
        RightKeys keys = eight();
        State.stays("hours", keys, () -> {
            for (int far : new int[] {-1, -2, 73, 74, MIN, MAX}) {
                Calls.due("hours(" + far + ")", keys.hours(far), -1);
            }
        });
        Calls.due("hours(1)", keys.hours(1), 7);
        Calls.due("hours(72)", keys.hours(72), 79);
    }

    private static void hoursZero() {
        Calls.sentence("12: 0 is no thing done");
        RightKeys keys = eight();
        State.stays("hours(0)", keys, () -> Calls.due("hours(0)", keys.hours(0), 6));
        RightKeys fresh = Calls.told(STUCK);
        fresh.hours(0);
        Calls.due("undo", fresh.undo(), false);
    }

    private static void undoNothing() {
        Calls.sentence("13: false: there is none");
        Calls.due("a new object", new RightKeys().undo(), false);
        RightKeys keys = Calls.told(STUCK);
        State.stays("undo", keys, () -> Calls.due("a new text", keys.undo(), false));
        keys.keep(0, true);
        Calls.due("one thing", keys.undo(), true);
        Calls.due("no more", keys.undo(), false);
        keys.keep(9, true);
        keys.pass(0, 0);
        keys.change(0, 0);
        keys.hours(73);
        keys.tell(0, true);
        keys.forget();
        keys.hold(0);
        Calls.due("what is refused, and what is told and held, is none", keys.undo(), false);
    }

    private static void undoEach() {
        Calls.sentence("13: The last thing done (keep, pass, change, hours) is undone");
        RightKeys keys = Calls.told("house a 1 3 0;house b 9 9 0;house c 2 5 0;spare a b;spare c c;lets=0;late=if which<1 then 100 else 0;");
        int[] fresh = State.of(keys);
        Calls.due("keep", keys.keep(1, true) && keys.undo(), true);
        State.same("keep undone", fresh, State.of(keys));
        Calls.due("pass", keys.pass(0, 0) && keys.undo(), true);
        State.same("pass undone", fresh, State.of(keys));
        Calls.due("change", keys.change(0, 1) && keys.undo(), true);
        State.same("change undone", fresh, State.of(keys));
        keys.hours(6);
        Calls.due("c was let in by a SPARE", keys.count(14), 1);
        Calls.due("hours", keys.undo(), true);
        State.same("hours undone", fresh, State.of(keys));
    }

    private static void undoOneByOne() {
        Calls.sentence("13: The last thing done .. is undone");
        RightKeys keys = Calls.told("house a 1 3 0;house b 9 9 0;spare a b;lets=0;");
        keys.keep(1, true);
        int[] first = State.of(keys);
        keys.pass(0, 0);
        int[] second = State.of(keys);
        keys.change(0, 1);
        int[] third = State.of(keys);
        keys.hours(30);
        keys.undo();
        State.same("hours", third, State.of(keys));
        keys.undo();
        State.same("change", second, State.of(keys));
        keys.undo();
        State.same("pass", first, State.of(keys));
        keys.undo();
        Calls.due("keep", keys.count(8), 0);
    }

    private static void undoForty() {
        Calls.sentence("13: (the last 40 can be)");
        for (int done : new int[] {39, 40, 41, 85}) {
            RightKeys keys = Calls.told(STUCK);
            for (int i = 0; i < done; i++) {
                keys.hours(1);
            }
            int can = Math.min(done, 40);
            Calls.due(done + " things done", keys.count(10), can);
            for (int i = 1; i <= can; i++) {
                Calls.due("undo " + i, keys.undo(), true);
                Calls.due("hour", keys.count(2), done - i);
            }
            Calls.due("one more", keys.undo(), false);
            Calls.due("hour", keys.count(2), done - can);
            keys.hours(2);
            keys.undo();
            Calls.due("done and undone behind that", keys.count(2), done - can);
        }
    }

    // ---- what would be: which arguments there are

    private static void openers() {
        Calls.sentence("14: NONE: no such HOUSE");
        RightKeys keys = eight();
        taken("house", 0, 7, -1, keys::openers);
    }

    private static void stand() {
        Calls.sentence("15: STAND: of one (house NONE: of all); NONE: no such ones");
        RightKeys keys = eight();
        taken("house", -1, 7, -1, n -> keys.stand(n, 5));
        taken("n", 1, 72, -1, n -> keys.stand(-1, n));
        taken("n of one", 1, 72, -1, n -> keys.stand(7, n));
    }

    private static void firstStand() {
        Calls.sentence("16: NONE: no such n");
        RightKeys keys = eight();
        taken("n", 1, 72, -1, keys::firstStand);
    }

    private static void firstStandNever() {
        Calls.sentence("16: -2: never");
        Calls.due("never", Calls.told("house a 1 3 0;").firstStand(72), -2);
        Calls.due("not by now", Calls.told(STUCK).firstStand(3), -2);
        Calls.due("but then", Calls.told(STUCK).firstStand(4), 3);
        Calls.due("no HOUSES", new RightKeys().firstStand(72), -2);
    }

    private static void stay() {
        Calls.sentence("17: what 0 how many, 1 who (bits); -2: not with all; NONE for others");
        RightKeys keys = Calls.told(STUCK);
        taken("what", 0, 1, -1, keys::stay);
        keys.hours(2);
        Calls.due("not with all: 0", keys.stay(0), -2);
        Calls.due("not with all: 1", keys.stay(1), -2);
        Calls.due("not with all: 2", keys.stay(2), -1);
        Calls.due("no HOUSES", new RightKeys().stay(0), 0);
    }

    private static void shift() {
        Calls.sentence("18: what 0 the hour, 1 STAND then; NONE: no such ones");
        RightKeys keys = eight();
        taken("house", 0, 7, -1, n -> keys.shift(n, 0));
        taken("what", 0, 1, -1, n -> keys.shift(7, n));
    }

    private static void changeBest() {
        Calls.sentence("19: what 0 the two (10 * the lesser + the other), 1 STAND then; .. NONE for others");
        RightKeys keys = Calls.told(Calls.houses(7, "9 9 0") + "house h 1 3 0;spare g g;lets=0;");
        for (int house = 0; house < 7; house++) {
            keys.keep(house, true);
        }
        Calls.due("the HOUSES 6 and 7", keys.changeBest(0), 67);
        Calls.due("nobody stands then", keys.changeBest(1), 0);
        taken("what", 0, 1, -1, keys::changeBest);
    }

    private static void changeBestNone() {
        Calls.sentence("19: -2: none");
        RightKeys keys = Calls.told("house a 1 3 0;house b 1 3 0;lets=0;");
        Calls.due("0", keys.changeBest(0), -2);
        Calls.due("1", keys.changeBest(1), -2);
        Calls.due("others are NONE still", keys.changeBest(2), -1);
        Calls.due("one HOUSE", Calls.told("house a 1 3 0;").changeBest(0), -2);
        Calls.due("no HOUSES", new RightKeys().changeBest(0), -2);
    }

    private static void frees() {
        Calls.sentence("20: NONE: no such HOUSE");
        RightKeys keys = eight();
        taken("house", 0, 7, -1, keys::frees);
    }

    private static void worst() {
        Calls.sentence("21: what 0 who, 1 how many hours; .. NONE: no such ones");
        RightKeys keys = eight();
        taken("n", 1, 72, -1, n -> keys.worst(n, 0));
        taken("what", 0, 1, -1, n -> keys.worst(5, n));
    }

    private static void worstWithoutHouses() {
        Calls.sentence("21: -2: there are no HOUSES");
        RightKeys keys = new RightKeys();
        taken("n", 1, 72, -1, n -> keys.worst(n, 0));
        Calls.due("who", keys.worst(1, 0), -2);
        Calls.due("how many hours", keys.worst(72, 1), -2);
        Calls.due("one HOUSE is enough", Calls.told("house a 1 3 0;").worst(72, 0), 0);
    }

    private static void peak() {
        Calls.sentence("22: what 0 the hour (0: this one), 1 how many; NONE: no such ones");
        RightKeys keys = eight();
        taken("n", 1, 72, -1, n -> keys.peak(n, 0));
        taken("what", 0, 1, -1, n -> keys.peak(5, n));
        Calls.due("no HOUSES", new RightKeys().peak(72, 0), 0);
        Calls.due("no HOUSES, how many", new RightKeys().peak(72, 1), 0);
    }

    private static void gain() {
        Calls.sentence("23: -100000: no such SPARE");
        RightKeys keys = eight();
        taken("spare", 0, 5, -100000, keys::gain);
        Calls.due("no SPARES", Calls.told(STUCK).gain(0), -100000);
    }

    private static void by() {
        Calls.sentence("24: NONE: no such HOUSE");
        RightKeys keys = eight();
        taken("house", 0, 7, -1, keys::by);
    }

    private static void byNobodyYet() {
        Calls.sentence("24: (by HOUSE; its own: by a SPARE, or alone; -2: nobody yet)");
        RightKeys keys = Calls.told("house a 1 3 0;house b 2 4 0;house c 9 9 0;spare b b;");
        Calls.due("a: nobody yet", keys.by(0), -2);
        keys.hours(5);
        Calls.due("a by c", keys.by(0), 2);
        Calls.due("b by the SPARE", keys.by(1), 1);
        Calls.due("c: nobody yet", keys.by(2), -2);
        RightKeys alone = Calls.told("house a 1 3 0;");
        alone.hours(3);
        Calls.due("OUT: nobody yet", alone.by(0), -2);
        alone.hours(1);
        Calls.due("alone", alone.by(0), 0);
        alone.hours(22);
        Calls.due("OUT again: the latest time", alone.by(0), 0);
        Calls.sentence("24: whoever lived in a HOUSE IN there");
        keys.change(0, 2);
        Calls.due("a's HOUSE still", keys.by(0), 2);
        Calls.due("c's HOUSE still", keys.by(2), -2);
    }

    private static void days() {
        Calls.sentence("25: DAYS (0: it is there); NONE: no such ones");
        RightKeys keys = eight();
        taken("spare", 0, 5, -1, n -> keys.days(n, 0));
        taken("house", 0, 7, -1, n -> keys.days(5, n));
        Calls.due("there", keys.days(5, 7), 0);
        Calls.due("no SPARES", Calls.told(STUCK).days(0, 0), -1);
    }

    private static void soonest() {
        Calls.sentence("26: what 0 which, 1 how many DAYS; -2: there is none; NONE: no such ones");
        RightKeys keys = eight();
        taken("house", 0, 7, -1, n -> keys.soonest(n, 0));
        taken("what", 0, 1, -1, n -> keys.soonest(7, n));
        Calls.due("none to that door", keys.soonest(6, 0), -2);
        Calls.due("none to that door, DAYS", keys.soonest(6, 1), -2);
        Calls.due("none, and no such what", keys.soonest(6, 2), -1);
        Calls.due("no SPARES", Calls.told(STUCK).soonest(0, 0), -2);
    }

    private static void rents() {
        Calls.sentence("27: RENTS behind n HOURS (0: now); NONE: no such n");
        RightKeys keys = eight();
        taken("n", 0, 72, -1, keys::rents);
        Calls.due("0: now", keys.rents(0), keys.count(16));
        Calls.due("no HOUSES", new RightKeys().rents(0), 0);
    }

    private static void shut() {
        Calls.sentence("28: NONE: no such HOUSE");
        RightKeys keys = eight();
        taken("house", 0, 7, -1, keys::shut);
    }

    private static void then() {
        Calls.sentence("29: NONE: no such ones");
        RightKeys keys = eight();
        taken("house", 0, 7, -1, n -> keys.then(n, 1, 0));
        taken("house, waited", 0, 7, -1, n -> keys.then(n, 1, 1));
        taken("n", 0, 72, -1, n -> keys.then(7, n, 0));
        taken("what", 0, 2, -1, n -> keys.then(7, 1, n));
    }

    private static void thenHouseNotLookedAt() {
        Calls.sentence("29: 2 QUARRELS more (HOUSE not looked at)");
        RightKeys keys = Calls.told(STUCK);
        for (int far : new int[] {MIN, -2, -1, 0, 1, 2, 8, MAX}) {
            Calls.due("then(" + far + ", 4, 2)", keys.then(far, 4, 2), 1);
            Calls.due("then(" + far + ", 73, 2)", keys.then(far, 73, 2), -1);
            Calls.due("then(" + far + ", -1, 2)", keys.then(far, -1, 2), -1);
        }
        Calls.due("no HOUSES", new RightKeys().then(0, 72, 2), 0);
        Calls.due("no HOUSES, where", new RightKeys().then(0, 72, 0), -1);
    }

    private static void year() {
        Calls.sentence("30: NONE: no such ones");
        RightKeys keys = eight();
        taken("n", 0, 72, -1, n -> keys.year(n, 1));
        taken("s", 1, 20, -1, n -> keys.year(0, n));
        Calls.due("no HOUSES", new RightKeys().year(72, 20), 20);
    }

    // ---- what is TOLD

    private static void tell() {
        Calls.sentence("31: It is TOLD: its number; NONE, and nothing happens: .. no such HOUSE");
        RightKeys keys = eight();
        State.stays("tell", keys, () -> {
            for (int far : new int[] {-1, 8, MIN, MAX}) {
                Calls.due("tell(" + far + ")", keys.tell(far, true), -1);
            }
        });
        Calls.due("tell(0)", keys.tell(0, true), 1);
        Calls.due("tell(7)", keys.tell(7, false), 2);
        Calls.due("no HOUSES", new RightKeys().tell(0, true), -1);
    }

    private static void tellTwenty() {
        Calls.sentence("31: NONE, and nothing happens: 20 are there");
        RightKeys keys = Calls.told(STUCK);
        for (int i = 0; i < 20; i++) {
            Calls.due("tell " + i, keys.tell(1, false), i);
        }
        Calls.due("20 are there", keys.tell(0, true), -1);
        Calls.due("TOLD ones", keys.count(11), 20);
        Calls.due("what was TOLD stays", keys.overslept(20, 1), 3);
        Calls.due("forget", keys.forget(), 20);
        Calls.due("there is room again", keys.tell(0, true), 0);
    }

    private static void forget() {
        Calls.sentence("32: All that was TOLD is forgotten: how many there were");
        Calls.due("a new object", new RightKeys().forget(), 0);
        RightKeys keys = Calls.told(STUCK);
        Calls.due("nothing TOLD", keys.forget(), 0);
        keys.tell(0, true);
        Calls.due("one", keys.forget(), 1);
        Calls.due("none again", keys.forget(), 0);
        Calls.due("TOLD ones", keys.count(11), 0);
        Calls.due("KNOWN by 1", keys.overslept(1, 0), -1);
        keys.tell(0, true);
        keys.forget();
        Calls.due("TOLD anew, the other way", keys.tell(0, false), 0);
        Calls.due("a alone", keys.overslept(1, 1), 1);
        for (int i = 0; i < 2; i++) {
            keys.forget();
            keys.tell(0, true);
            Calls.due("b alone", keys.overslept(1, 1), 2);
        }
    }

    private static void overslept() {
        Calls.sentence("33: NONE: no such ones");
        RightKeys keys = eight();
        keys.tell(0, false);
        taken("k", 0, 2, -1, n -> keys.overslept(n, 0));
        taken("what", 0, 1, -1, n -> keys.overslept(0, n));
        Calls.due("nothing TOLD: 0", Calls.told(STUCK).overslept(0, 1), 3);
        Calls.due("nothing TOLD: 1", Calls.told(STUCK).overslept(1, 1), -1);
    }

    private static void ask() {
        Calls.sentence("34: NONE: no such k");
        RightKeys keys = Calls.told(STUCK);
        taken("k, nothing TOLD", 0, 0, -1, keys::ask);
        keys.tell(0, true);
        keys.tell(0, true);
        taken("k", 0, 2, -1, keys::ask);
    }

    private static void askNobody() {
        Calls.sentence("34: -2: nobody is left");
        RightKeys keys = Calls.told(STUCK);
        keys.tell(1, true);
        Calls.due("b never stands", keys.ask(1), -2);
        Calls.due("by none of it", keys.ask(0), 0);
        Calls.due("no HOUSES", new RightKeys().ask(0), -2);
    }

    // ---- SLOTS

    private static void hold() {
        Calls.sentence("35: a SLOT (0 .. 2): true; false: no such one");
        RightKeys keys = Calls.told(STUCK);
        for (int far : new int[] {-1, 3, 32, 34, MIN, MAX}) {
            Calls.due("hold(" + far + ")", keys.hold(far), false);
        }
        Calls.due("nothing is held", keys.count(12), 0);
        for (int slot = 0; slot < 3; slot++) {
            Calls.due("hold(" + slot + ")", keys.hold(slot), true);
            Calls.due("SLOTS", keys.count(12), slot + 1);
        }
        keys.hours(2);
        Calls.due("a full one is held anew", keys.hold(2), true);
        Calls.due("SLOTS still", keys.count(12), 3);
        keys.restore(1);
        Calls.due("the others stay", keys.count(2), 0);
        keys.restore(2);
        Calls.due("the new one", keys.count(2), 2);
    }

    private static void holdNotTold() {
        Calls.sentence("35: All that goes on (not what is TOLD, nor the tape)");
        RightKeys keys = Calls.told(STUCK);
        keys.tell(0, true);
        Calls.feed(keys, "abc");
        keys.hold(0);
        keys.tell(1, true);
        keys.back(2);
        keys.hours(3);
        keys.restore(0);
        Calls.due("TOLD ones", keys.count(11), 2);
        Calls.due("bytes", keys.count(9), 1);
        Calls.due("the hour", keys.count(2), 0);
        keys.forget();
        keys.restore(0);
        Calls.due("forgotten stays forgotten", keys.count(11), 0);
    }

    private static void restore() {
        Calls.sentence("36: false, and nothing happens: no such one");
        RightKeys keys = eight();
        State.stays("restore", keys, () -> {
            for (int far : new int[] {-1, 3, 34, MIN, MAX}) {
                Calls.due("restore(" + far + ")", keys.restore(far), false);
            }
        });
        RightKeys all = Calls.told(STUCK);
        for (int slot = 0; slot < 3; slot++) {
            all.hold(slot);
            all.hours(1);
        }
        for (int slot = 0; slot < 3; slot++) {
            Calls.due("restore(" + slot + ")", all.restore(slot), true);
            Calls.due("its hour", all.count(2), slot);
        }
    }

    private static void restoreNothing() {
        Calls.sentence("36: false, and nothing happens: .. nothing is held");
        RightKeys keys = eight();
        State.stays("restore", keys, () -> {
            Calls.due("restore(0)", keys.restore(0), false);
            Calls.due("restore(1)", keys.restore(1), false);
        });
        Calls.due("restore(2)", keys.restore(2), true);
        Calls.due("a new object", new RightKeys().restore(0), false);
    }

    private static void restoreStays() {
        Calls.sentence("36: (that stays there; nothing can be undone then)");
        RightKeys keys = Calls.told(STUCK);
        keys.hours(2);
        keys.hold(1);
        int[] held = State.of(keys);
        held[10] = 0;
        keys.keep(1, true);
        keys.hours(5);
        Calls.due("three things", keys.count(10), 3);
        for (int i = 0; i < 2; i++) {
            Calls.due("restore", keys.restore(1), true);
            State.same("held", held, State.of(keys));
            Calls.due("undo", keys.undo(), false);
            keys.hours(3);
        }
        Calls.due("what is done then can be", keys.undo(), true);
        State.same("undone", held, State.of(keys));
        Calls.due("no more", keys.undo(), false);
    }

    // ---- count

    private static void count() {
        Calls.sentence("37: NONE for others");
        RightKeys keys = eight();
        taken("what", 0, 16, -1, keys::count);
        RightKeys fresh = new RightKeys();
        taken("what of a new object", 0, 16, -1, fresh::count);
    }

    private static void countWhere() {
        Calls.sentence("37: 4 who is IN, 5 OUT, 6 OUTSIDE (bits)");
        RightKeys keys = eight();
        for (int hour = 6; hour < 30; hour++) {
            int[] bits = new int[3];
            for (int house = 0; house < 8; house++) {
                bits[keys.house(house, 3)] |= 1 << house;
            }
            for (int where = 0; where < 3; where++) {
                Calls.due("count(" + (4 + where) + ") at " + hour, keys.count(4 + where), bits[where]);
            }
            keys.hours(1);
        }
        RightKeys all = Calls.told(STUCK);
        Calls.due("all IN", all.count(4), 3);
        Calls.due("none OUT", all.count(5), 0);
        all.hours(10);
        Calls.due("none IN", all.count(4), 0);
        Calls.due("b OUT", all.count(5), 2);
        Calls.due("a OUTSIDE", all.count(6), 1);
    }

    private static void countBits() {
        Calls.sentence("37: 8 who is KEPT IN (bits)");
        RightKeys keys = eight();
        Calls.due("g", keys.count(8), 64);
        keys.keep(0, true);
        keys.keep(7, true);
        Calls.due("a, g, h", keys.count(8), 128 + 64 + 1);
        Calls.sentence("37: 15 SPARES that have a goal (bits)");
        Calls.due("the SPARE 1", keys.count(15), 2);
        keys.pass(0, 0);
        keys.pass(5, 7);
        Calls.due("0, 1, 5, one being there", keys.count(15), 32 + 2 + 1);
        keys.pass(1, -1);
        Calls.due("0, 5", keys.count(15), 32 + 1);
    }

    private static void countUndone() {
        Calls.sentence("37: 10 things that can be undone");
        RightKeys keys = Calls.told(STUCK);
        for (int i = 1; i <= 42; i++) {
            keys.keep(0, i % 2 == 1);
            Calls.due("behind " + i, keys.count(10), Math.min(i, 40));
        }
        keys.undo();
        Calls.due("undone", keys.count(10), 39);
    }

    private static void countSlots() {
        Calls.sentence("37: 12 SLOTS that hold something");
        RightKeys keys = Calls.told(STUCK);
        keys.hold(2);
        Calls.due("one", keys.count(12), 1);
        keys.hold(2);
        Calls.due("the same", keys.count(12), 1);
        keys.restore(2);
        Calls.due("restored, it stays", keys.count(12), 1);
        keys.hold(0);
        Calls.due("two", keys.count(12), 2);
    }

    private static void countLetIn() {
        Calls.sentence("37: 13 how often anybody was let IN so far, 14 how often by a SPARE so far");
        RightKeys keys = Calls.told("house a 1 3 0;house b 2 4 0;house c 9 9 0;spare b b;");
        keys.hours(3);
        Calls.due("none yet", keys.count(13), 0);
        keys.hours(1);
        Calls.due("a by c", keys.count(13), 1);
        Calls.due("not by a SPARE", keys.count(14), 0);
        keys.hours(1);
        Calls.due("b", keys.count(13), 2);
        Calls.due("by a SPARE", keys.count(14), 1);
        RightKeys alone = Calls.told("house a 1 3 0;");
        alone.hours(4);
        Calls.due("alone", alone.count(13), 1);
        Calls.due("alone is not by a SPARE", alone.count(14), 0);
    }

    /** No text was read, or an empty one: nobody is there to be asked about. */
    private static void noHouses() {
        Calls.sentence("1: No HOUSES");
        RightKeys keys = new RightKeys();
        for (int far : new int[] {0, 1, 7}) {
            Calls.due("house", keys.house(far, 0), -1);
            Calls.due("lets", keys.lets(far, 0), -1);
            Calls.due("keep", keys.keep(far, true), false);
            Calls.due("pass", keys.pass(far, 0), false);
            Calls.due("change", keys.change(far, 0), false);
            Calls.due("openers", keys.openers(far), -1);
            Calls.due("stand", keys.stand(far, 5), -1);
            Calls.due("shift", keys.shift(far, 0), -1);
            Calls.due("frees", keys.frees(far), -1);
            Calls.due("gain", keys.gain(far), -100000);
            Calls.due("by", keys.by(far), -1);
            Calls.due("days", keys.days(far, 0), -1);
            Calls.due("soonest", keys.soonest(far, 0), -1);
            Calls.due("shut", keys.shut(far), -1);
            Calls.due("tell", keys.tell(far, true), -1);
        }
        Calls.due("stand of all", keys.stand(-1, 72), 0);
        Calls.due("hours go by", keys.hours(72), 72);
        Calls.due("and are undone", keys.undo(), true);
        Calls.due("the hour", keys.count(2), 0);
    }

    private static void calls512() {
        Calls.sentence("An object is used for at most 512 calls after it has been made");
        RightKeys keys = new RightKeys();
        for (int i = 1; i < 512; i++) {
            keys.hours(72);
        }
        Calls.due("the 512th", keys.hours(72), 512 * 72);
    }
}
