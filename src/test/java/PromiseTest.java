/** Promises 1 and 6 to 37, each by runs whose answers were found by hand. */
public final class PromiseTest {
    private static final String FOUR = "house ann 8 17 3; house bob 9 16 5; house cid 7 18 2; house dot 10 20 1; "
        + "spare bob dot; spare ann cid; both dot; quarrel = waited; rent = inside + keys;";
    private static final int MIN = Integer.MIN_VALUE;
    private static final int MAX = Integer.MAX_VALUE;

    public static void main(String[] args) {
        newObject();
        house();
        spare();
        lets();
        keep();
        pass();
        change();
        hours();
        hoursOrder();
        late();
        laws();
        quarrels();
        undo();
        openers();
        stand();
        stay();
        shift();
        changeBest();
        frees();
        worstAndPeak();
        gain();
        by();
        daysAndSoonest();
        rents();
        shut();
        then();
        year();
        told();
        ask();
        holdAndRestore();
        count();
        wrongOnes();
        Calls.end();
    }

    private static void due(String call, long got, long want) {
        Calls.due(call, got, want);
    }

    private static void due(String call, boolean got, boolean want) {
        Calls.due(call, got, want);
    }

    /** 1. */
    private static void newObject() {
        RightKeys keys = new RightKeys();
        for (int what = 0; what <= 16; what++) {
            due("new: count(" + what + ")", keys.count(what), 0);
        }
        due("new: house", keys.house(0, 0), -1);
        due("new: hours", keys.hours(30), 30);
        due("new: hour of the day", keys.count(3), 6);
        due("new: hold", keys.hold(0), true);
        due("new: undo", keys.undo(), true);
        due("new: restore", keys.restore(0), true);
        due("new: restored", keys.count(2), 30);
        due("new: rents", keys.rents(72), 0);
        due("new: year", keys.year(72, 20), 20);
        due("new: firstStand", keys.firstStand(72), -2);
        due("new: stay", keys.stay(1), 0);
        due("new: changeBest", keys.changeBest(1), -2);
        due("new: worst", keys.worst(72, 1), -2);
        due("new: worst of no such", keys.worst(73, 1), -1);
        due("new: peak", keys.peak(72, 1), 0);
        due("new: ask", keys.ask(0), -2);
        due("new: overslept", keys.overslept(0, 1), 0);
    }

    /** 6. */
    private static void house() {
        RightKeys keys = Calls.told(FOUR + "late = if which < 1 then 100 else 0;");
        int[] want = {10, 20, 1, 0, 0, 0, 1, 3, 0, 5};
        for (int what = 0; what < want.length; what++) {
            due("house(3, " + what + ")", keys.house(3, what), want[what]);
        }
        due("house(0, 10)", keys.house(0, 10), -1);
        due("house(0, -1)", keys.house(0, -1), -1);
        due("house(4, 0)", keys.house(4, 0), -1);
        due("house(-1, 0)", keys.house(-1, 0), -1);
        keys.hours(18);
        due("ann was late", keys.house(0, 8), 1);
        due("ann is out", keys.house(0, 3), 1);
        due("bob stands outside", keys.house(1, 3), 2);
        due("bob waited", keys.house(1, 4), 2);
        due("bob was not late", keys.house(1, 8), 0);
        due("rent: nobody is in, one key", keys.house(2, 9), 1);
        keys.hours(1);
        due("ann is late no more", keys.house(0, 8), 0);
        due("ann stands outside", keys.house(0, 3), 2);
        due("bob is in", keys.house(1, 3), 0);
        due("bob waits no more", keys.house(1, 4), 0);
        due("rent: two are in, one key", keys.house(2, 9), 3);
    }

    /** 7. */
    private static void spare() {
        RightKeys keys = Calls.told(FOUR);
        due("spare(1, 0)", keys.spare(1, 0), 0);
        due("spare(1, 1)", keys.spare(1, 1), 2);
        due("spare(1, 2)", keys.spare(1, 2), -2);
        keys.pass(1, 3);
        due("spare's goal", keys.spare(1, 2), 3);
        due("spare(1, 3)", keys.spare(1, 3), -1);
        due("spare(1, -1)", keys.spare(1, -1), -1);
        due("spare(2, 0)", keys.spare(2, 0), -1);
        due("spare(-1, 0)", keys.spare(-1, 0), -1);
        keys.hours(1);
        due("spare went on", keys.spare(1, 1), 3);
        keys.hours(24);
        due("spare stays at its goal", keys.spare(1, 1), 3);
        due("its goal stays", keys.spare(1, 2), 3);
    }

    /** 8. */
    private static void lets() {
        RightKeys keys = Calls.told("house a 1 2 9; house b 3 4 4; house c 5 6 2; lets = temper - other * which;");
        due("a lets b: 9 - 4 * 1", keys.lets(0, 1), 1);
        due("b lets c: 4 - 2 * 2", keys.lets(1, 2), 0);
        due("a lets c: 9 - 2 * 2", keys.lets(0, 2), 1);
        due("c lets b: 2 - 4 * 1", keys.lets(2, 1), 0);
        due("c lets a: 2 - 9 * 0", keys.lets(2, 0), 1);
        due("lets itself", keys.lets(1, 1), -1);
        due("lets(0, 3)", keys.lets(0, 3), -1);
        due("lets(3, 0)", keys.lets(3, 0), -1);
        due("lets(-1, 0)", keys.lets(-1, 0), -1);
        keys = Calls.told("house a 0 9 9; house b 0 3 4; house c 0 9 2; lets = waited - 2;");
        keys.hours(5);
        due("waited 2 is too few", keys.lets(0, 1), 0);
        keys.hours(1);
        due("waited 3, the opener out", keys.lets(0, 1), 1);
        due("who did not wait", keys.lets(1, 0), 0);
        keys = Calls.told("house a 1 2 9; house b 3 4 4; lets = hour + 10 * day - keys - 5;");
        keys.hours(5);
        due("at 5", keys.lets(0, 1), 0);
        keys.hours(1);
        due("at 6", keys.lets(0, 1), 1);
        keys.hours(18);
        due("the next day", keys.lets(0, 1), 1);
    }

    /** 9. */
    private static void keep() {
        RightKeys keys = Calls.told(FOUR);
        due("not kept", keys.keep(0, false), false);
        due("keep", keys.keep(0, true), true);
        due("keep again", keys.keep(0, true), false);
        due("keep nobody", keys.keep(4, true), false);
        due("keep nobody below", keys.keep(-1, false), false);
        due("keep is a thing done, once", keys.count(10), 1);
        keys.hours(12);
        due("ann is in", keys.house(0, 3), 0);
        due("bob is out", keys.house(1, 3), 1);
        due("no more", keys.keep(0, false), true);
        due("kept", keys.count(8), 0);
        keys.hours(24);
        due("ann is out", keys.house(0, 3), 1);
        RightKeys outside = Calls.told("house a 3 1 0; house b 0 9 0; lets = 0;");
        outside.hours(6);
        outside.keep(0, true);
        outside.hours(20);
        due("a stands outside", outside.house(0, 3), 2);
        outside.hours(2);
        due("and, kept in, does not go", outside.house(0, 3), 2);
        due("but waits", outside.house(0, 4), 3);
        outside.undo();
        outside.keep(0, false);
        outside.hours(2);
        due("else goes", outside.house(0, 3), 1);
        due("and waits no more", outside.house(0, 4), 0);
    }

    /** 10. */
    private static void pass() {
        RightKeys keys = Calls.told(FOUR);
        due("no goal already", keys.pass(0, -1), false);
        due("a goal", keys.pass(0, 2), true);
        due("the same", keys.pass(0, 2), false);
        due("another", keys.pass(0, 1), true);
        due("none", keys.pass(0, -1), true);
        due("none again", keys.pass(0, -1), false);
        due("goal -2", keys.pass(0, -2), false);
        due("no such house", keys.pass(0, 4), false);
        due("no such spare", keys.pass(2, 0), false);
        due("no such spare below", keys.pass(-1, 0), false);
        due("where it is", keys.pass(0, 3), true);
        due("things done", keys.count(10), 4);
        keys.pass(0, 1);
        keys.hours(1);
        due("hour 0 itself: to the right of the last", keys.spare(0, 1), 0);
        keys.hours(23);
        due("as hour 24 is about to begin", keys.spare(0, 1), 0);
        keys.hours(1);
        due("as it has begun", keys.spare(0, 1), 1);
        keys.pass(0, 0);
        keys.hours(72);
        due("the long way round", keys.spare(0, 1), 0);
    }

    /** 11. */
    private static void change() {
        RightKeys keys = Calls.told(FOUR);
        due("change with oneself", keys.change(1, 1), false);
        due("change(0, 4)", keys.change(0, 4), false);
        due("change(4, 0)", keys.change(4, 0), false);
        due("change(-1, 0)", keys.change(-1, 0), false);
        keys.keep(3, true);
        due("change", keys.change(3, 0), true);
        due("things done", keys.count(10), 2);
        int[] first = {10, 20, 1, 0, 0, 1, 0, 3, 0, 4};
        int[] last = {8, 17, 3, 0, 0, 0, 1, 0, 0, 5};
        for (int what = 0; what < 10; what++) {
            due("house(0, " + what + ") changed", keys.house(0, what), first[what]);
            due("house(3, " + what + ") changed", keys.house(3, what), last[what]);
        }
        due("spare's door stays", keys.spare(1, 0), 0);
        due("spare's box stays", keys.spare(0, 1), 3);
        keys.hours(8);
        due("cid is out", keys.change(2, 1), false);
        due("bob is in, cid out", keys.change(1, 2), false);
        due("dot and bob", keys.change(0, 1), true);
        RightKeys both = Calls.told("house a 0 5 1; house b 9 9 1;");
        both.hours(6);
        due("let in by", both.by(0), 1);
        both.change(0, 1);
        due("by stays with the house", both.by(0), 1);
        due("by of the other", both.by(1), -2);
    }

    /** 12. */
    private static void hours() {
        RightKeys keys = Calls.told(FOUR);
        due("hours(0)", keys.hours(0), 0);
        due("no thing done", keys.count(10), 0);
        due("hours(-1)", keys.hours(-1), -1);
        due("hours(73)", keys.hours(73), -1);
        due("nothing happened", keys.count(2), 0);
        due("hours(72)", keys.hours(72), 72);
        due("one thing done", keys.count(10), 1);
        due("three days' quarrels", keys.count(7), 3 * 7);
        due("three days' being let in", keys.count(13), 12);
        RightKeys same = Calls.told("house a 4 4 0; house b 9 12 0;");
        same.hours(5);
        due("who goes does not come in the same hour", same.house(0, 3), 1);
        same.hours(24);
        due("but a day later", same.house(0, 3), 0);
        due("by", same.by(0), 1);
    }

    /** II: in which order an hour goes, and who CAN open. */
    private static void hoursOrder() {
        RightKeys keys = Calls.told("house a 0 5 0; house b 0 5 0; house c 0 5 0;");
        keys.hours(6);
        due("all outside, a by c", keys.by(0), 2);
        due("b by a", keys.by(1), 0);
        due("c by b", keys.by(2), 1);
        keys = Calls.told("house a 0 5 0; house b 0 5 0; house c 0 5 0; lets = inside;");
        keys.hours(6);
        due("nobody is inside to begin with", keys.count(6), 7);
        keys = Calls.told("house a 0 5 0; house b 0 5 0; house c 0 5 0; spare c c; lets = inside;");
        keys.hours(6);
        due("c by the spare, then a, then b", keys.count(4), 7);
        due("a by c", keys.by(0), 2);
        due("c by itself", keys.by(2), 2);
        due("by a spare", keys.count(14), 1);
        keys = Calls.told("house a 0 5 0; house b 0 6 0; house c 0 7 0; both b; lets = 1;");
        keys.hours(7);
        due("a by b to the right, whose key is for both", keys.by(0), 1);
        due("b by a", keys.by(1), 0);
        keys = Calls.told("house a 0 5 0; house b 9 6 0; house c 0 7 0;");
        keys.hours(6);
        due("b's key does not fit to the left", keys.house(0, 3), 2);
        keys = Calls.told("house a 0 5 0; house b 9 6 0; house c 9 7 0; both b; lets = 0;");
        keys.hours(6);
        due("nobody lets a in", keys.house(0, 3), 2);
        keys = Calls.told("house a 0 5 0; house b 9 6 0; house c 9 7 1; both b; lets = 1 - temper;");
        keys.hours(6);
        due("c does not, b does", keys.by(0), 1);
        keys = Calls.told("house a 0 5 0; house b 9 6 0; house c 9 7 0; both b;");
        keys.hours(6);
        due("the left one first", keys.by(0), 2);
        keys = Calls.told("house a 0 5 0; house b 9 6 0; spare a a; spare a b;");
        keys.hours(6);
        due("themselves first", keys.by(0), 0);
        keys = Calls.told("house a 0 5 0; house b 9 6 0; spare a b; spare b a; lets = 0;");
        keys.hours(6);
        due("a spare elsewhere, or to another door, opens nothing", keys.house(0, 3), 2);
        keys = Calls.told("house a 0 5 0; lets = 0;");
        keys.hours(6);
        due("one alone opens", keys.by(0), 0);
        due("not by a spare", keys.count(14), 0);
        keys = Calls.told("house a 0 5 0; house b 23 0 0; spare a b; lets = 0;");
        keys.pass(0, 0);
        keys.hours(6);
        due("the spare came as hour 0 began", keys.by(0), 0);
    }

    /** II: LATE and LOT; LOTs of SEED 7 for the house 0 at 3 of each day: 21 2 22 60. */
    private static void late() {
        RightKeys keys = Calls.told("house a 1 3 0; seed 7; late = 22;");
        keys.hours(4);
        due("21 is less than 22", keys.house(0, 8), 1);
        due("out", keys.house(0, 3), 1);
        keys.hours(1);
        due("not twice on end", keys.house(0, 3), 0);
        due("not late", keys.house(0, 8), 0);
        keys.hours(23);
        due("2 is less than 22", keys.house(0, 8), 1);
        keys.hours(24);
        due("22 is not", keys.house(0, 8), 0);
        due("in", keys.house(0, 3), 0);
        keys = Calls.told("house a 1 3 0; seed 7; late = 21;");
        keys.hours(4);
        due("21 is not less than 21", keys.house(0, 3), 0);
        keys = Calls.told("house a 1 3 0; seed 7; late = 0 - 5;");
        keys.hours(72);
        due("late below 0", keys.count(13), 3);
        keys = Calls.told("house x 1 5 0; house a 1 3 4; seed 9999; late = 90 + temper * which;");
        keys.hours(4);
        due("93 is less than 94", keys.house(1, 8), 1);
        keys = Calls.told("house x 1 5 0; house a 1 3 4; seed 9999; late = 93 + other + waited + keys;");
        keys.hours(4);
        due("93 is not less than 93", keys.house(1, 8), 0);
        keys = Calls.told("house a 1 3 0; house b 1 3 0; late = 100 * outside; lets = 0; late = 100 * (1 - outside);");
        keys.hours(4);
        due("a late, b too, nobody being outside", keys.house(1, 8), 1);
        keys = Calls.told("house a 1 3 0; house b 1 3 0; late = if which < 1 then 0 else 100 * outside; lets = 0;");
        keys.hours(4);
        due("a is outside as b comes", keys.house(1, 8), 1);
        keys = Calls.told("house a 5 3 0; house b 4 4 0; late = 100;");
        keys.hours(6);
        keys.hours(21 + 24 - 24);
        keys.hours(1);
        due("late at 3 of the next day", keys.house(0, 8), 1);
        due("stand: comes in the hour behind", keys.stand(0, 2), 0);
        keys.hours(1);
        due("in, by b, who goes late", keys.house(0, 3), keys.house(1, 3) == 1 ? 2 : 0);
    }

    /** II: how LAWS are worked out, seen through RENT. */
    private static void laws() {
        rent("1 + 2 * 3 - 4 / 2", 5);
        rent("7 - 2 - 1", 4);
        rent("20 / 3 / 2", 3);
        rent("20 / (3 / 2)", 20);
        rent("(1 + 2) * 3", 9);
        rent("10 + (0 - 7) / 2", 7);
        rent("10 - 7 / (0 - 2)", 13);
        rent("100", 99);
        rent("0 - 1", 0);
        rent("9999 * 9999 * 9999", held(9999 * 9999 * 9999));
        rent("9999 * 9999 * 9999 / 9999999 ", NO_TEXT);
        rent("9999 * 9999 * 50 / 9999", held(9999 * 9999 * 50 / 9999));
        rent("(0 - 8 * 4096 * 8192 * 8) / (0 - 1) / 8192 / 8192 + 40", held(MIN / 8192 / 8192 + 40));
        rent("1 / 0", 0);
        rent("5 + 1 / (2 - 2)", 0);
        rent("5 + 0 * (1 / 0)", 0);
        rent("if 1 < 2 then 3 else 1 / 0", 3);
        rent("if 2 < 1 then 1 / 0 else 4", 4);
        rent("if 2 < 2 then 1 else 4", 4);
        rent("if 1 / 0 < 2 then 3 else 4", 0);
        rent("if 1 < 2 then 3 else if 1 / 0 < 1 then 5 else 6", 3);
        rent("if 3 < 2 then 3 else if 1 < 2 then 5 else 6", 5);
        rent("if 3 < 2 then 3 else if 2 < 1 then 5 else if 4 < 3 then 6 else if 0 < 1 then 7 else 8", 7);
        rent("if 3 < 2 then 3 else if 2 < 1 then 5 else if 4 < 3 then 6 else if 1 < 1 then 7 else 8", 8);
        rent("waited + other + keys + temper * 10 + which", 50);
        rent("inside + 10 * outside + hour + day", 1);
        rent("1+(2*(3+(4*(5-(6/(7-4)))+1)))", 33);
        Calls.due("the last law told", Calls.told("house a 1 2 3; rent = 5; rent = 6;").count(16), 6);
    }

    private static final int NO_TEXT = -77;

    private static void rent(String law, int want) {
        if (want == NO_TEXT) {
            Calls.fault("rent=" + law + ";", 1, 5 + law.lastIndexOf("9999999"));
        } else {
            due("rent = " + law, Calls.told("house a 1 2 5;rent=" + law + ";").house(0, 9), want);
        }
    }

    private static int held(int value) {
        return Math.max(0, Math.min(99, value));
    }

    /** II: QUARRELS. */
    private static void quarrels() {
        String stuck = "house a 0 1 3; house b 0 5 4; lets = 0; quarrel = ";
        due("as told for each hour", behind(stuck + "10;", 3).count(7), 20);
        due("waited as it is then", behind(stuck + "waited;", 5).count(7), 1 + 2 + 3 + 4);
        due("temper, which", behind(stuck + "temper + 10 * which;", 6).count(7), 3 * 5 + 14);
        due("the hour itself", behind(stuck + "hour;", 3).count(7), 1 + 2);
        due("outside", behind(stuck + "outside;", 6).count(7), 4 + 2 * 2);
        due("other and keys are 0", behind(stuck + "other + keys;", 6).count(7), 0);
        due("at most 99", behind(stuck + "1000;", 2).count(7), 99);
        due("at least 0", behind(stuck + "0 - 4;", 6).count(7), 0);
        due("divided by 0", behind(stuck + "4 / (waited - 1);", 3).count(7), 4);
        StringBuilder eight = new StringBuilder();
        for (char c = 'a'; c < 'i'; c++) {
            eight.append("house ").append(c).append(" 0 0 0;");
        }
        RightKeys keys = behind(eight + "lets = 0; quarrel = 99;", 24);
        keys.hours(72);
        int perDay = 24 * 8 * 99;
        due("outside on the days 1 and 3", keys.count(7), 2 * perDay);
        for (int i = 0; i < 10; i++) {
            keys.hours(72);
        }
        due("99,999 at most", keys.count(7), 99999);
        due("no more", keys.then(0, 72, 2), 0);
    }

    private static RightKeys behind(String text, int hours) {
        RightKeys keys = Calls.told(text);
        keys.hours(hours);
        return keys;
    }

    /** 13. */
    private static void undo() {
        RightKeys keys = Calls.told(FOUR);
        due("nothing to undo", keys.undo(), false);
        keys.hours(18);
        keys.keep(1, true);
        keys.pass(0, 1);
        keys.hours(1);
        keys.undo();
        due("hours undone", keys.count(2), 18);
        due("quarrels undone", keys.count(7), 2);
        due("being let in undone", keys.count(13), 1);
        keys.undo();
        due("pass undone", keys.spare(0, 2), -2);
        keys.undo();
        due("keep undone", keys.count(8), 0);
        keys.undo();
        due("all in", keys.count(4), 15);
        due("by undone", keys.by(1), -2);
        due("nothing more", keys.undo(), false);
        keys.change(0, 1);
        keys.tell(1, true);
        keys.undo();
        due("change undone", keys.house(0, 7), 0);
        due("told stays", keys.count(11), 1);
        for (int i = 0; i < 50; i++) {
            keys.hours(1);
            due("things done", keys.count(10), Math.min(40, i + 1));
        }
        for (int i = 0; i < 40; i++) {
            due("undo " + i, keys.undo(), true);
        }
        due("the last 40", keys.undo(), false);
        due("ten hours stay", keys.count(2), 10);
        keys.keep(9, true);
        keys.hours(0);
        due("nothing was done", keys.undo(), false);
    }

    /** 14. */
    private static void openers() {
        RightKeys keys = Calls.told(FOUR + "lets = 0;");
        due("ann: dot", keys.openers(0), 8);
        due("cid: bob, dot with both", keys.openers(2), 10);
        due("no such", keys.openers(4), -1);
        due("no such below", keys.openers(-1), -1);
        keys.hours(8);
        due("dot: cid is out", keys.openers(3), 0);
        keys.pass(1, 0);
        keys.hours(41);
        due("ann: herself by the spare, dot out", keys.openers(0), 9);
        keys.hours(8);
        RightKeys two = Calls.told("house a 0 5 0; house b 0 5 0; both a; both b; lets = 0;");
        due("two: the other", two.openers(0), 2);
        two.hours(2);
        due("two: out", two.openers(0), 0);
        two.hours(5);
        due("two: outside, too", two.openers(0), 2);
        RightKeys one = Calls.told("house a 0 5 0;");
        one.hours(2);
        due("one: alone, though out", one.openers(0), 1);
    }

    /** 15, 16. */
    private static void stand() {
        RightKeys keys = Calls.told(FOUR);
        due("ann: 17, 18, 19", keys.stand(0, 20), 3);
        due("ann: 17, 18", keys.stand(0, 19), 2);
        due("all", keys.stand(-1, 20), 4);
        due("all by 16", keys.stand(-1, 16), 0);
        due("all by 17", keys.stand(-1, 17), 1);
        due("n 0", keys.stand(-1, 0), -1);
        due("n 73", keys.stand(-1, 73), -1);
        due("n 72", keys.stand(-1, 72), 12);
        due("n 1", keys.stand(-1, 1), 0);
        due("house 4", keys.stand(4, 5), -1);
        due("house -2", keys.stand(-2, 5), -1);
        due("firstStand(16)", keys.firstStand(16), -2);
        due("firstStand(17)", keys.firstStand(17), 16);
        due("firstStand(72)", keys.firstStand(72), 16);
        due("firstStand(0)", keys.firstStand(0), -1);
        due("firstStand(73)", keys.firstStand(73), -1);
        due("nothing happened", keys.count(2), 0);
        keys.hours(17);
        due("this hour: ann", keys.firstStand(1), 0);
        due("bob no more", keys.stand(1, 5), 0);
        RightKeys late = Calls.told("house a 1 3 0; house b 2 6 0; late = 100; lets = inside;");
        due("nobody late: a 3 .. , b 6 ..", late.stand(-1, 7), 4 + 1);
        late.hours(4);
        due("was late", late.house(0, 8), 1);
        due("comes now", late.stand(0, 1), 1);
        due("b not late at 6", late.stand(1, 3), 1);
    }

    /** 17. */
    private static void stay() {
        RightKeys keys = Calls.told(FOUR);
        due("one", keys.stay(0), 1);
        due("ann", keys.stay(1), 1);
        due("stay(2)", keys.stay(2), -1);
        due("stay(-1)", keys.stay(-1), -1);
        keys.keep(0, true);
        due("nobody more", keys.stay(0), 0);
        due("no bits", keys.stay(1), 0);
        keys.keep(0, false);
        keys.keep(2, true);
        due("cid kept does not help: ann", keys.stay(1), 1);
        RightKeys stuck = Calls.told("house a 3 5 0; house b 4 6 0; house c 3 7 0; lets = 0;");
        due("all of them", stuck.stay(0), 3);
        due("all bits", stuck.stay(1), 7);
        stuck.keep(1, true);
        due("besides who are so", stuck.stay(0), 2);
        due("their bits", stuck.stay(1), 5);
        stuck.hours(4);
        due("not with all", stuck.stay(0), -2);
        due("not with all, who", stuck.stay(1), -2);
        RightKeys more = Calls.told("house a 3 5 0; house b 3 5 0; house c 3 5 0; house d 3 5 0; lets = inside;");
        due("any one; the least", more.stay(1), 1);
        RightKeys odd = Calls.told("house a 9 9 0; house b 3 5 0; house c 9 9 0; lets = if inside < 2 then 1 else 0; spare a a; spare c c;");
        due("b kept in, nobody else", odd.stay(1), 2);
    }

    /** 18. */
    private static void shift() {
        RightKeys keys = Calls.told(FOUR);
        due("ann at 9, while dot is in and bob comes to an open door", keys.shift(0, 0), 9);
        due("nobody stands then", keys.shift(0, 1), 0);
        due("shift(0, 2)", keys.shift(0, 2), -1);
        due("shift(0, -1)", keys.shift(0, -1), -1);
        due("shift(4, 0)", keys.shift(4, 0), -1);
        due("shift(-1, 0)", keys.shift(-1, 0), -1);
        due("dot at 18, with cid: ann and bob stand an hour each; 17 is as good, but not so near", keys.shift(3, 0), 18);
        due("stand of all then", keys.shift(3, 1), 6);
        RightKeys calm = Calls.told("house a 8 12 0; house b 9 15 0; spare a a; spare b b;");
        due("theirs, if all are alike", calm.shift(0, 0), 12);
        due("stand then", calm.shift(0, 1), 0);
        RightKeys wide = Calls.told("house a 12 0 0; house b 5 6 0; lets = if hour < 3 then 0 else 1; spare b b;");
        due("a at 23, an hour ahead of 0", wide.shift(0, 0), 23);
        due("not standing at 0, 1, 2", wide.shift(0, 1), 0);
        RightKeys middle = Calls.told("house a 20 5 0; house b 10 11 0; spare b b; "
            + "lets = if hour < 4 then 1 else if hour < 7 then 0 else 1;");
        due("a stands at 5 and 6 of two days", middle.stand(0, 72), 4);
        due("3 and 7 are alike near to 5: the lower", middle.shift(0, 0), 3);
    }

    /** 19. */
    private static void changeBest() {
        RightKeys keys = Calls.told("house a 8 12 0; house b 8 13 0; house c 8 11 0; spare b b; lets = 0;");
        due("a and c from coming to 7", keys.stand(-1, 72), 12 + 20 + 20 + 13 + 21 + 21);
        due("b with c, who comes first; a would do, too", keys.changeBest(0), 12);
        due("a and b then", keys.changeBest(1), 12 + 20 + 20 + 11 + 19 + 19);
        due("changeBest(2)", keys.changeBest(2), -1);
        due("changeBest(-1)", keys.changeBest(-1), -1);
        RightKeys calm = Calls.told("house a 1 3 0; house b 5 6 0;");
        due("nothing to better", calm.changeBest(0), -2);
        due("nothing to better, stand", calm.changeBest(1), -2);
        RightKeys spare = Calls.told("house a 8 12 0; house b 9 9 0; house c 9 9 0; spare b b; spare c c; lets = 0;");
        spare.keep(1, true);
        spare.keep(2, true);
        due("a stands from 12 on", spare.stand(-1, 72) > 0, true);
        due("a with b, as good as with c: the first", spare.changeBest(0), 1);
        due("nobody stands then", spare.changeBest(1), 0);
        spare.hours(9);
        due("a is out", spare.changeBest(0), -2);
        due("nobody changed", spare.house(0, 7), 0);
    }

    /** 20. */
    private static void frees() {
        RightKeys keys = Calls.told("house a 0 5 0; house b 0 5 0; house c 0 5 0; house d 0 5 0; lets = inside;");
        keys.hours(6);
        due("all stand outside", keys.count(6), 15);
        due("a in: b, c, d, but not a", keys.frees(0), 3);
        due("d in: a, b, c", keys.frees(3), 3);
        due("nothing happened", keys.count(6), 15);
        due("nobody was let in", keys.count(13), 0);
        due("frees(4)", keys.frees(4), -1);
        due("frees(-1)", keys.frees(-1), -1);
        keys = Calls.told("house a 0 9 0; house b 0 5 0; house c 0 9 0; house d 0 5 0; lets = 1;");
        keys.hours(6);
        due("a in: b alone", keys.frees(0), 1);
        due("b in: none", keys.frees(1), 0);
        due("c in: d", keys.frees(2), 1);
    }

    /** 21, 22. */
    private static void worstAndPeak() {
        RightKeys keys = Calls.told(FOUR);
        due("ann", keys.worst(24, 0), 0);
        due("three hours", keys.worst(24, 1), 3);
        due("bob by 17", keys.worst(17, 0), 1);
        due("of alike ones the first", keys.worst(18, 0), 0);
        due("nobody: the first", keys.worst(5, 0), 0);
        due("nobody: 0", keys.worst(5, 1), 0);
        due("worst(0, 0)", keys.worst(0, 0), -1);
        due("worst(73, 0)", keys.worst(73, 0), -1);
        due("worst(5, 2)", keys.worst(5, 2), -1);
        due("worst(5, -1)", keys.worst(5, -1), -1);
        due("no houses", new RightKeys().worst(5, 1), -2);
        RightKeys stuck = Calls.told("house a 0 3 0; house b 0 5 0; house c 0 7 0; lets = 0;");
        due("peak by 5: at 3", stuck.peak(5, 0), 3);
        due("peak by 6: at 5", stuck.peak(6, 0), 5);
        due("two", stuck.peak(6, 1), 2);
        due("peak by 72: at 7, the first", stuck.peak(72, 0), 7);
        due("three", stuck.peak(72, 1), 3);
        due("nobody: the first hour", stuck.peak(2, 0), 0);
        due("nobody: none", stuck.peak(2, 1), 0);
        due("peak(0, 0)", stuck.peak(0, 0), -1);
        due("peak(73, 0)", stuck.peak(73, 0), -1);
        due("peak(5, 2)", stuck.peak(5, 2), -1);
        stuck.hours(4);
        due("from now on", stuck.peak(72, 0), 3);
        due("worst from now on", stuck.worst(10, 0), 0);
        due("worst's hours", stuck.worst(10, 1), 10);
    }

    /** 23. */
    private static void gain() {
        RightKeys keys = Calls.told(FOUR);
        due("bob's: his three hours", keys.gain(0), 3);
        due("ann's: her nine", keys.gain(1), 9);
        due("no such", keys.gain(2), -100000);
        due("no such below", keys.gain(-1), -100000);
        RightKeys there = Calls.told("house a 1 3 0; house b 2 5 0; spare a a;");
        due("it is there", there.gain(0), 0);
        RightKeys below = Calls.told("house a 0 3 1; house b 0 3 0; house c 0 4 1; spare a c; spare c c; "
            + "lets = if other < 1 then (outside - 1) * (4 - hour) else 1;");
        due("a stands at 3 of three days", below.stand(-1, 72), 3);
        due("with the spare a is in ahead, and b stands from 3 to 23", below.gain(0), 3 - 63);
        RightKeys goes = Calls.told("house a 1 3 0; house b 2 5 0; spare a b; lets = 0;");
        int still = goes.gain(0);
        goes.pass(0, 1);
        due("with a goal elsewhere it goes on as hour 0 begins", goes.gain(0), 0);
        due("without, it stays", still > 0, true);
    }

    /** 24. */
    private static void by() {
        RightKeys keys = Calls.told(FOUR);
        due("nobody yet", keys.by(0), -2);
        due("no such", keys.by(4), -1);
        due("no such below", keys.by(-1), -1);
        keys.hours(21);
        due("ann by dot", keys.by(0), 3);
        due("bob by ann", keys.by(1), 0);
        due("cid by bob", keys.by(2), 1);
        due("dot by cid", keys.by(3), 2);
        keys.pass(1, 0);
        keys.hours(72);
        due("ann by the spare", keys.by(0), 0);
        due("by a spare", keys.count(14) > 0, true);
    }

    /** 25, 26. */
    private static void daysAndSoonest() {
        RightKeys keys = Calls.told(FOUR + "spare ann dot; spare ann dot;");
        due("dot to bob", keys.days(0, 1), 2);
        due("dot to dot", keys.days(0, 3), 0);
        due("cid to bob", keys.days(1, 1), 3);
        due("days(4, 0)", keys.days(4, 0), -1);
        due("days(-1, 0)", keys.days(-1, 0), -1);
        due("days(0, 4)", keys.days(0, 4), -1);
        due("days(0, -1)", keys.days(0, -1), -1);
        due("ann's: the second one, not the third", keys.soonest(0, 0), 2);
        due("one day", keys.soonest(0, 1), 1);
        due("bob's", keys.soonest(1, 1), 2);
        due("none", keys.soonest(2, 0), -2);
        due("none, days", keys.soonest(2, 1), -2);
        due("soonest(0, 2)", keys.soonest(0, 2), -1);
        due("soonest(2, -1)", keys.soonest(2, -1), -1);
        due("soonest(4, 0)", keys.soonest(4, 0), -1);
        due("soonest(-1, 0)", keys.soonest(-1, 0), -1);
    }

    /** 27. */
    private static void rents() {
        RightKeys keys = Calls.told(FOUR);
        due("now: 4 * 4 + 2", keys.rents(0), 18);
        due("behind 8 hours: 3 * 4 + 2", keys.rents(8), 14);
        due("behind 9 hours", keys.rents(9), 10);
        due("rents(-1)", keys.rents(-1), -1);
        due("rents(73)", keys.rents(73), -1);
        due("nothing happened", keys.count(16), 18);
        RightKeys late = Calls.told("house a 1 3 0; late = 100;");
        due("late ones count in HOURS", late.rents(4), 0);
        due("and come", late.rents(5), 1);
        RightKeys hour = Calls.told("house a 1 3 0; rent = hour + 30 * day;");
        due("the hour then", hour.rents(5), 5);
        due("the day then", hour.rents(49), 61);
    }

    /** 28. */
    private static void shut() {
        RightKeys keys = Calls.told(FOUR);
        due("ann: bob stands anyway", keys.shut(0), 0);
        due("bob: cid", keys.shut(1), 4);
        due("cid: dot", keys.shut(2), 8);
        due("dot: ann stands anyway", keys.shut(3), 0);
        due("shut(4)", keys.shut(4), -1);
        due("shut(-1)", keys.shut(-1), -1);
        RightKeys calm = Calls.told("house a 1 3 0; house b 5 6 0; house c 9 9 0;");
        due("c: a", calm.shut(2), 1);
        due("a: b", calm.shut(0), 2);
        due("b: none, c goes for long", calm.shut(1), 0);
        due("nothing happened", calm.count(5), 0);
        calm.hours(10);
        due("behind all of the next 24 hours: c too", calm.shut(1), 4);
    }

    /** 29. */
    private static void then() {
        RightKeys keys = Calls.told(FOUR);
        due("in 0 hours", keys.then(0, 0, 0), 0);
        due("in 9 hours", keys.then(0, 9, 0), 1);
        due("in 19 hours", keys.then(0, 19, 0), 2);
        due("waited then", keys.then(0, 19, 1), 2);
        due("quarrels then", keys.then(9, 19, 2), 1 + 1 + 2);
        due("then(0, 73, 0)", keys.then(0, 73, 0), -1);
        due("then(0, -1, 0)", keys.then(0, -1, 0), -1);
        due("then(0, -1, 2)", keys.then(0, -1, 2), -1);
        due("then(4, 1, 0)", keys.then(4, 1, 0), -1);
        due("then(-1, 1, 1)", keys.then(-1, 1, 1), -1);
        due("then(0, 1, 3)", keys.then(0, 1, 3), -1);
        due("then(0, 1, -1)", keys.then(0, 1, -1), -1);
        due("nothing happened", keys.count(2), 0);
        keys.hours(24);
        due("quarrels more, not all", keys.then(0, 24, 2), 7);
        RightKeys late = Calls.told("house a 1 3 0; late = 100;");
        due("late ones count in HOURS", late.then(0, 4, 0), 1);
        due("and come", late.then(0, 5, 0), 0);
    }

    /** 30: LOTs of the house 0 at 3 by SEEDS 0 .. 9: 23 19 0 14 63 64 27 21 91 64; by 9999 .. of the house 1: 93 26 52. */
    private static void year() {
        String text = "house a 1 3 0; house b 2 9 0; lets = 0; late = 25; seed ";
        RightKeys keys = Calls.told(text + "0;");
        due("late by 0", keys.year(4, 1), 1);
        due("late by 0, 1, 2, 3", keys.year(4, 4), 4);
        due("not by 4, 5, 6, but by 7", keys.year(4, 10), 5);
        due("all are outside an hour later", keys.year(5, 10), 0);
        due("nobody is yet", keys.year(3, 20), 20);
        due("n 0", keys.year(0, 20), 20);
        due("from the seed on", Calls.told(text + "3;").year(4, 5), 2);
        due("beyond 9999", Calls.told("house b 2 9 0; house a 1 3 0; lets = 0; late = 27; seed 9999;").year(4, 3), 1);
        due("year(-1, 1)", keys.year(-1, 1), -1);
        due("year(73, 1)", keys.year(73, 1), -1);
        due("year(1, 0)", keys.year(1, 0), -1);
        due("year(1, 21)", keys.year(1, 21), -1);
        due("nothing happened", keys.count(2), 0);
    }

    /** 31, 32, 33. */
    private static void told() {
        RightKeys keys = Calls.told(FOUR);
        due("tell(4)", keys.tell(4, true), -1);
        due("tell(-1)", keys.tell(-1, true), -1);
        due("anybody", keys.overslept(0, 1), 15);
        due("cid stood", keys.tell(2, true), 0);
        due("so bob overslept", keys.overslept(1, 1), 2);
        due("one", keys.overslept(1, 0), 1);
        due("by none of it", keys.overslept(0, 0), 4);
        due("bob never stood", keys.tell(1, false), 1);
        due("bob still", keys.overslept(2, 1), 2);
        due("dot stood", keys.tell(3, true), 2);
        due("nobody", keys.overslept(3, 0), 0);
        due("overslept(4, 0)", keys.overslept(4, 0), -1);
        due("overslept(-1, 0)", keys.overslept(-1, 0), -1);
        due("overslept(0, 2)", keys.overslept(0, 2), -1);
        due("overslept(0, -1)", keys.overslept(0, -1), -1);
        due("forget", keys.forget(), 3);
        due("forget again", keys.forget(), 0);
        due("told anew, the other way", keys.tell(2, false), 0);
        due("all but bob", keys.overslept(1, 1), 13);
        for (int i = 1; i < 20; i++) {
            due("tell " + i, keys.tell(2, false), i);
        }
        due("20 are there", keys.tell(2, false), -1);
        due("told", keys.count(11), 20);
        due("known by 20", keys.overslept(20, 1), 13);
        keys.hours(3);
        keys.undo();
        due("things done do not touch it", keys.count(11), 20);
    }

    /** 34. */
    private static void ask() {
        RightKeys keys = Calls.told("house a 1 3 0; house b 5 6 0; house c 9 10 0; house d 12 13 0;");
        due("each one shuts the right one, who goes: any of them leaves 3", keys.ask(0), 0);
        keys.tell(1, false);
        due("a has not: b, c, d", keys.overslept(1, 1), 14);
        due("a stood, were it d; b: never: c leaves 2, a leaves 2", keys.ask(1), 0);
        due("ask(2)", keys.ask(2), -1);
        due("ask(-1)", keys.ask(-1), -1);
        keys.tell(2, true);
        keys.tell(3, true);
        due("nobody is left", keys.ask(3), -2);
        RightKeys half = Calls.told("house a 9 9 0; house b 9 9 0; house c 1 3 0; house d 9 9 0; lets = 1 - outside + inside - 2;");
        due("c is let in while all three others are in", half.stand(-1, 24), 0);
        due("c stands without a, b or d; only c tells something", half.ask(0), 2);
    }

    /** 35, 36. */
    private static void holdAndRestore() {
        RightKeys keys = Calls.told(FOUR);
        due("hold(3)", keys.hold(3), false);
        due("hold(-1)", keys.hold(-1), false);
        due("restore(0)", keys.restore(0), false);
        due("restore(3)", keys.restore(3), false);
        due("restore(-1)", keys.restore(-1), false);
        keys.keep(1, true);
        keys.pass(0, 2);
        keys.change(2, 3);
        keys.hours(20);
        int[] held = snapshot(keys);
        due("hold(2)", keys.hold(2), true);
        due("slots", keys.count(12), 1);
        due("hold is no thing done", keys.count(10), 4);
        due("hold(2) again", keys.hold(2), true);
        due("slots still", keys.count(12), 1);
        keys.hours(50);
        keys.keep(1, false);
        keys.pass(0, 1);
        keys.tell(1, true);
        Calls.feed(keys, "abc");
        due("restore(0), nothing there", keys.restore(0), false);
        due("things done stay", keys.count(10), 7);
        due("restore(2)", keys.restore(2), true);
        same(keys, held);
        due("nothing can be undone", keys.count(10), 0);
        due("undo", keys.undo(), false);
        due("told stays", keys.count(11), 1);
        due("tape stays", keys.count(9), 3);
        keys.hours(5);
        keys.undo();
        same(keys, held);
        keys.hours(7);
        due("that stays there", keys.restore(2), true);
        same(keys, held);
        keys.hold(0);
        keys.hold(1);
        due("three slots", keys.count(12), 3);
    }

    private static int[] snapshot(RightKeys keys) {
        int[] all = new int[100];
        int at = 0;
        for (int house = 0; house < 4; house++) {
            for (int what = 0; what < 10; what++) {
                all[at++] = keys.house(house, what);
            }
            all[at++] = keys.by(house);
        }
        for (int spare = 0; spare < 2; spare++) {
            for (int what = 0; what < 3; what++) {
                all[at++] = keys.spare(spare, what);
            }
        }
        for (int what : new int[] {0, 1, 2, 3, 4, 5, 6, 7, 8, 13, 14, 15, 16}) {
            all[at++] = keys.count(what);
        }
        return all;
    }

    private static void same(RightKeys keys, int[] held) {
        int[] now = snapshot(keys);
        for (int i = 0; i < now.length; i++) {
            due("held " + i, now[i], held[i]);
        }
    }

    /** 37. */
    private static void count() {
        RightKeys keys = Calls.told(FOUR);
        keys.keep(2, true);
        keys.pass(1, 0);
        keys.hours(24);
        keys.hours(18);
        keys.hold(1);
        keys.tell(0, true);
        Calls.feed(keys, "house");
        int[] want = {4, 2, 42, 18, 4, 8 + 0, 3, keys.count(7), 4, 5, 4, 1, 1, keys.count(13), keys.count(14), 2, keys.count(16)};
        due("out: dot", keys.count(5), 8);
        for (int what : new int[] {0, 1, 2, 3, 8, 9, 10, 11, 12, 15}) {
            due("count(" + what + ")", keys.count(what), want[what]);
        }
        due("everybody is somewhere", keys.count(4) + keys.count(5) + keys.count(6), 15);
        due("count(17)", keys.count(17), -1);
        due("count(-1)", keys.count(-1), -1);
        RightKeys day = Calls.told(FOUR);
        day.hours(19);
        due("in: bob, cid", day.count(4), 6);
        due("out: dot", day.count(5), 8);
        due("outside: ann", day.count(6), 1);
        due("quarrels", day.count(7), 1 + 1 + 2);
        due("let in", day.count(13), 2);
        due("rents", day.count(16), 4 * 2 + 2);
    }

    /** Calls with numbers far out answer as the document says, whatever the state. */
    private static void wrongOnes() {
        RightKeys keys = Calls.told(FOUR);
        for (int far : new int[] {MIN, MIN + 1, -2, 100, MAX - 1, MAX}) {
            due("house", keys.house(far, 0), -1);
            due("house's what", keys.house(0, far), -1);
            due("spare", keys.spare(far, 0), -1);
            due("spare's what", keys.spare(0, far), -1);
            due("lets", keys.lets(far, 0), -1);
            due("lets other", keys.lets(0, far), -1);
            due("keep", keys.keep(far, true), false);
            due("pass", keys.pass(far, 0), false);
            due("pass to", keys.pass(0, far), false);
            due("change", keys.change(far, 0), false);
            due("change with", keys.change(0, far), false);
            due("hours", keys.hours(far), -1);
            due("openers", keys.openers(far), -1);
            due("stand", keys.stand(far, 5), -1);
            due("stand n", keys.stand(0, far), -1);
            due("firstStand", keys.firstStand(far), -1);
            due("stay", keys.stay(far), -1);
            due("shift", keys.shift(far, 0), -1);
            due("shift what", keys.shift(0, far), -1);
            due("changeBest", keys.changeBest(far), -1);
            due("frees", keys.frees(far), -1);
            due("worst", keys.worst(far, 0), -1);
            due("worst what", keys.worst(5, far), -1);
            due("peak", keys.peak(far, 0), -1);
            due("peak what", keys.peak(5, far), -1);
            due("gain", keys.gain(far), -100000);
            due("by", keys.by(far), -1);
            due("days", keys.days(far, 0), -1);
            due("days to", keys.days(0, far), -1);
            due("soonest", keys.soonest(far, 0), -1);
            due("soonest what", keys.soonest(0, far), -1);
            due("rents", keys.rents(far), -1);
            due("shut", keys.shut(far), -1);
            due("then", keys.then(far, 1, 0), -1);
            due("then n", keys.then(0, far, 0), -1);
            due("then what", keys.then(0, 1, far), -1);
            due("then, house not looked at", keys.then(far, 1, 2), 0);
            due("year", keys.year(far, 1), -1);
            due("year s", keys.year(1, far), -1);
            due("tell", keys.tell(far, true), -1);
            due("overslept", keys.overslept(far, 0), -1);
            due("overslept what", keys.overslept(0, far), -1);
            due("ask", keys.ask(far), -1);
            due("hold", keys.hold(far), false);
            due("restore", keys.restore(far), false);
            due("count", keys.count(far), -1);
            due("back", keys.back(far), -1);
        }
        due("nothing was done", keys.count(10), 0);
    }
}
