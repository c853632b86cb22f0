/** Parts III and IV of the document, what would be and who had overslept: each sentence that names an edge has a test of its own. */
public final class EdgeWouldTest {
    /** b being KEPT IN, a is let in at 0 of the days 1 and 2, and not at 0 of the day 3: that is the hour 72. */
    private static final String NIGHT = "house a 22 0 0;house b 5 6 0;lets=if day<3 then 1 else 0;spare b b;spare a b;";
    /** Were a LATE at 3, a would come with b at 4 and not stand. */
    private static final String LATE = "house a 1 3 0;house b 2 4 0;late=if which<1 then 100 else 0;spare a b;spare b b;rent=inside*10;";
    private static final String STUCK = "house a 1 3 0;house b 9 9 0;lets=0;";

    public static void main(String[] args) {
        nothingHappens();
        lateInHours();
        nobodyLateElse();
        wasLateComes();
        openers();
        standHours();
        standOfAll();
        firstHour();
        stayHours();
        stayBesides();
        stayLeastBits();
        stayFewest();
        stayNotWithAll();
        shiftHours();
        shiftNearest();
        shiftLowest();
        changeHours();
        changeLess();
        changeBothIn();
        changeFirst();
        freesOthers();
        freesOneAfterAnother();
        worstFirst();
        worstHours();
        peakFirst();
        peakHours();
        gainHours();
        gainBelowZero();
        daysRound();
        soonestFirst();
        rentsHours();
        shutHours();
        shutNotElse();
        shutForGood();
        thenHours();
        thenMore();
        yearSeeds();
        yearHours();
        toldHours();
        toldTwenty();
        knownByFirst();
        nobodyFits();
        askAtWorst();
        askFirst();
        Calls.end();
    }

    private static RightKeys behind(String text, int hours) {
        return Calls.behind(text, hours);
    }

    private static RightKeys night(int hours) {
        RightKeys keys = Calls.told(NIGHT);
        keys.keep(1, true);
        keys.hours(hours);
        return keys;
    }

    // ---- III, all of it

    private static void nothingHappens() {
        Calls.sentence("What would be (nothing happens");
        RightKeys keys = behind(LATE + "lets=0;", 28);
        keys.pass(0, 1);
        keys.tell(0, true);
        State.stays("all that is asked", keys, () -> {
            keys.openers(0);
            keys.stand(-1, 72);
            keys.firstStand(72);
            keys.stay(0);
            keys.shift(0, 0);
            keys.changeBest(0);
            keys.frees(1);
            keys.worst(72, 0);
            keys.peak(72, 0);
            keys.gain(0);
            keys.days(0, 1);
            keys.soonest(0, 0);
            keys.rents(72);
            keys.shut(1);
            keys.then(0, 72, 0);
            keys.year(72, 20);
            keys.overslept(1, 0);
            keys.ask(1);
            keys.lets(0, 1);
        });
        Calls.due("and it goes on as it would have", keys.hours(1), 29);
        Calls.due("a, LATE at 27, comes", keys.house(0, 3), 2);
    }

    private static void lateInHours() {
        Calls.sentence("nobody LATE but in HOURS");
        RightKeys keys = Calls.told(LATE);
        Calls.due("hours: a is LATE", behind(LATE, 4).house(0, 8), 1);
        Calls.due("then: a is OUT", keys.then(0, 4, 0), 1);
        Calls.due("then: nobody waited, no QUARRELS", keys.then(0, 72, 2), 0);
        Calls.due("rents: nobody is inside", keys.rents(4), 0);
        Calls.due("year: nobody is OUTSIDE", keys.year(4, 1), 1);
        Calls.due("whatever was asked ahead: stand", keys.stand(0, 4), 1);
        Calls.due("then", keys.then(0, 4, 0), 1);
        keys.stay(0);
        Calls.due("rents", keys.rents(4), 0);
        keys.shut(0);
        Calls.due("year", keys.year(4, 1), 1);
    }

    private static void nobodyLateElse() {
        Calls.sentence("nobody LATE but in HOURS: not in hours");
        RightKeys keys = Calls.told(LATE);
        Calls.due("stand", keys.stand(-1, 72), 3);
        Calls.due("stand of a", keys.stand(0, 4), 1);
        Calls.due("firstStand", keys.firstStand(4), 3);
        Calls.due("stay", keys.stay(0), 1);
        Calls.due("stay, who", keys.stay(1), 1);
        Calls.due("shift", keys.shift(0, 0), 4);
        Calls.due("changeBest", keys.changeBest(0), 1);
        Calls.due("worst", keys.worst(72, 1), 3);
        Calls.due("peak", keys.peak(72, 0), 3);
        Calls.due("gain", keys.gain(0), 3);
        Calls.due("shut: a stands anyway", keys.shut(1), 0);
        RightKeys three = Calls.told("house a 1 3 0;house c 9 9 0;house b 2 4 0;late=if which<1 then 100 else 0;");
        three.tell(0, true);
        Calls.due("overslept: c or b", three.overslept(1, 1), 6);
        Calls.due("ask: b, who stands without c alone", three.ask(1), 2);
    }

    private static void wasLateComes() {
        Calls.sentence("then who .. was LATE in the hour ahead .. stands OUTSIDE: in hours, too");
        RightKeys keys = behind(STUCK + "late=100;", 4);
        Calls.due("LATE", keys.house(0, 8), 1);
        Calls.due("stands now", keys.stand(0, 1), 1);
        Calls.due("in the first hour", keys.firstStand(72), 0);
    }

    // ---- OPENERS, STAND

    private static void openers() {
        Calls.sentence("OPENERS .. (by HOUSES: to the left, to the right; its own by a SPARE or alone)");
        Calls.due("none but to the left", Calls.told("house a 9 9 0;house b 9 9 0;house c 9 9 0;").openers(1), 1);
        Calls.due("to the right", Calls.told("house a 9 9 0;house b 9 9 0;house c 9 9 0;both c;").openers(1), 5);
        Calls.due("its own", Calls.told("house a 9 9 0;house b 9 9 0;house c 9 9 0;both c;spare b b;").openers(1), 7);
        Calls.due("alone", Calls.told("house a 9 9 0;").openers(0), 1);
        Calls.due("alone, though OUT", behind("house a 1 9 0;", 2).openers(0), 1);
        Calls.due("by a SPARE, though OUT", behind("house a 1 9 0;house b 1 9 0;spare a a;", 2).openers(0), 1);
        Calls.due("of two the same one", Calls.told("house a 9 9 0;house b 9 9 0;both a;both b;").openers(0), 2);
        Calls.due("nobody", behind("house a 0 9 0;house b 0 9 0;both a;both b;spare a b;", 1).openers(0), 0);
    }

    private static void standHours() {
        Calls.sentence("STAND for n hours from now (1 .. 72)");
        Calls.due("the hour 72 is not one of 72", night(0).stand(-1, 72), 0);
        Calls.due("from 1 on it is the last of 72", night(1).stand(-1, 72), 1);
        Calls.due("but not one of 71", night(1).stand(-1, 71), 0);
        Calls.due("1: this hour", night(72).stand(-1, 1), 1);
        Calls.due("1: not the next", night(71).stand(-1, 1), 0);
        Calls.due("2: the next, too", night(71).stand(-1, 2), 1);
        Calls.due("0", night(72).stand(-1, 0), -1);
        Calls.due("73", night(1).stand(-1, 73), -1);
    }

    private static void standOfAll() {
        Calls.sentence("for how many hours people stand OUTSIDE, all together; of one alone");
        RightKeys keys = Calls.told("house a 0 1 0;house b 0 3 0;house c 0 9 0;lets=0;");
        Calls.due("all: a at 1 .. 4, b at 3, 4", keys.stand(-1, 5), 6);
        Calls.due("a", keys.stand(0, 5), 4);
        Calls.due("b", keys.stand(1, 5), 2);
        Calls.due("c", keys.stand(2, 5), 0);
    }

    private static void firstHour() {
        Calls.sentence("the first hour (0: this one) behind which somebody does");
        Calls.due("this one", behind(STUCK, 3).firstStand(1), 0);
        Calls.due("the next one", behind(STUCK, 2).firstStand(2), 1);
        Calls.due("the next one is not among one", behind(STUCK, 2).firstStand(1), -2);
        Calls.due("the last of 72", night(1).firstStand(72), 71);
        Calls.due("not among 71", night(1).firstStand(71), -2);
        RightKeys waits = behind("house a 1 3 0;house b 9 9 0;lets=waited;", 4);
        Calls.due("who stands now, and is let in in this hour, does not behind it", waits.firstStand(5), -2);
        Calls.due("who stands now and stays so does", behind(STUCK, 4).firstStand(1), 0);
    }

    // ---- STAY

    private static void stayHours() {
        Calls.sentence("STAY .. leave nobody OUTSIDE behind any of the next 72 hours");
        Calls.due("the hour 72 is none of them", night(0).stay(0), 0);
        Calls.due("nobody: no bits", night(0).stay(1), 0);
        Calls.due("from 1 on it is the last of them", night(1).stay(0), 1);
        Calls.due("a", night(1).stay(1), 1);
        Calls.due("who is OUTSIDE now, and let in in this hour, does not matter",
            stays(behind("house a 1 3 0;house b 9 9 0;lets=waited;", 4), 0), 0);
    }

    private static int stays(RightKeys keys, int what) {
        keys.keep(0, true);
        keys.keep(1, true);
        return keys.stay(what);
    }

    private static void stayBesides() {
        Calls.sentence("(besides who are so)");
        RightKeys keys = Calls.told("house a 1 3 0;house b 1 3 0;house c 1 3 0;lets=0;");
        Calls.due("all three", keys.stay(1), 7);
        keys.keep(1, true);
        Calls.due("two more", keys.stay(0), 2);
        Calls.due("who", keys.stay(1), 5);
        keys.keep(0, true);
        keys.keep(2, true);
        Calls.due("none more", keys.stay(0), 0);
        Calls.due("no bits", keys.stay(1), 0);
    }

    private static void stayLeastBits() {
        Calls.sentence("of as many the set of least bits");
        RightKeys keys = Calls.told("house a 1 3 0;house b 1 3 0;house c 1 3 0;lets=inside;");
        Calls.due("any one would do", keys.stay(0), 1);
        Calls.due("a", keys.stay(1), 1);
        RightKeys two = Calls.told("house a 9 9 0;house b 1 3 0;house c 1 3 0;house d 1 3 0;lets=inside-1;spare a a;");
        two.keep(0, true);
        Calls.due("any one besides a", two.stay(0), 1);
        Calls.due("b", two.stay(1), 2);
    }

    /** a and b are let in by c alone: {c} is 4, {a, b} is 3. */
    private static void stayFewest() {
        Calls.sentence("STAY: the fewest who, KEPT IN from now on");
        RightKeys keys = Calls.told("house a 1 3 0;house b 1 3 0;house c 2 5 9;both c;lets=if which<2 then temper-4 else 1;");
        Calls.due("one is fewer than two", keys.stay(0), 1);
        Calls.due("c, though the bits of a and b are less", keys.stay(1), 4);
    }

    private static void stayNotWithAll() {
        Calls.sentence("17: -2: not with all");
        Calls.due("a stands there and stays so", behind(STUCK, 4).stay(0), -2);
        Calls.due("who", behind(STUCK, 4).stay(1), -2);
        Calls.due("a is OUT and will stand", behind(STUCK, 2).stay(0), -2);
        Calls.due("a is IN still", behind(STUCK, 1).stay(0) > 0, true);
        Calls.due("all of them do", Calls.told(STUCK).stay(1), 3);
    }

    // ---- SHIFT

    private static void shiftHours() {
        Calls.sentence("SHIFT .. so that STAND for 72 hours is least");
        Calls.due("the hour 72 does not count", night(0).shift(0, 0), 0);
        Calls.due("nobody stands", night(0).shift(0, 1), 0);
        Calls.due("from 1 on it does", night(1).shift(0, 0), 1);
        RightKeys some = Calls.told("house a 1 3 0;house b 2 5 0;lets=0;");
        Calls.due("b had best come at 1, an hour ahead of going", some.shift(1, 0), 1);
        Calls.due("a stands from 3 on, b for an hour on two days", some.shift(1, 1), 22 + 22 + 21 + 2);
    }

    private static void shiftNearest() {
        Calls.sentence("of alike ones the nearest to theirs (hours of the day, either way round)");
        RightKeys down = Calls.told("house a 12 0 0;house b 5 5 0;lets=if hour<3 then 0 else 1;spare b b;");
        down.keep(1, true);
        Calls.due("23 is an hour from 0; 3 is three", down.shift(0, 0), 23);
        RightKeys up = Calls.told("house a 12 23 0;house b 5 5 0;lets=if hour<1 then 1 else if hour<20 then 0 else if hour<21 then 1 else 0;spare b b;");
        up.keep(1, true);
        Calls.due("0 is an hour from 23; 20 is three", up.shift(0, 0), 0);
        Calls.due("their own, if all are alike", Calls.told("house a 8 17 0;house b 5 5 0;spare a a;spare b b;").shift(0, 0), 17);
        RightKeys far = Calls.told("house a 20 0 0;house b 5 5 0;lets=if hour<12 then 0 else if hour<13 then 1 else 0;spare b b;");
        far.keep(1, true);
        Calls.due("12 hours off is as far as it goes", far.shift(0, 0), 12);
    }

    private static void shiftLowest() {
        Calls.sentence("then the lowest");
        Calls.due("1 and 23 are alike near to 0", night(1).shift(0, 0), 1);
        RightKeys keys = Calls.told("house a 20 5 0;house b 9 9 0;lets=if hour<5 then 1 else if hour<6 then 0 else 1;spare b b;");
        keys.keep(1, true);
        Calls.due("4 and 6 are alike near to 5", keys.shift(0, 0), 4);
        Calls.due("stand then", keys.shift(0, 1), 0);
    }

    // ---- CHANGE

    private static void changeHours() {
        Calls.sentence("CHANGE .. have STAND for 72 hours least");
        Calls.due("the hour 72 does not count", night(0).changeBest(0), -2);
        Calls.due("from 1 on it does", night(1).changeBest(0), 1);
        Calls.due("stand then", night(1).changeBest(1), 0);
    }

    private static void changeLess() {
        Calls.sentence("less than now");
        RightKeys same = Calls.told("house a 1 3 0;house b 1 3 0;lets=0;");
        Calls.due("as much", same.changeBest(0), -2);
        Calls.due("as much, stand", same.changeBest(1), -2);
        Calls.due("more", Calls.told("house a 1 2 0;house b 1 3 0;spare a a;lets=0;").changeBest(0), -2);
        RightKeys less = Calls.told("house a 1 2 0;house b 1 3 0;spare b b;lets=0;");
        Calls.due("a stands from 2 on", less.stand(-1, 72), 23 + 23 + 22);
        Calls.due("b would from 3 on", less.changeBest(1), 22 + 22 + 21);
        Calls.due("the two: 0 and 1", less.changeBest(0), 1);
    }

    private static void changeBothIn() {
        Calls.sentence("the two, both IN now");
        String text = "house a 4 6 0;house b 9 9 0;house c 0 2 0;spare b b;spare c c;lets=0;";
        RightKeys in = Calls.told(text);
        in.keep(1, true);
        Calls.due("all are IN: a and b", in.changeBest(0), 1);
        RightKeys out = behind(text, 1);
        out.keep(1, true);
        out.undo();
        out.hours(4);
        out.keep(1, true);
        Calls.due("a is OUT: nobody", out.changeBest(0), -2);
        RightKeys some = Calls.told("house a 0 2 0;house b 9 9 0;house c 9 12 0;spare a a;spare b b;lets=0;");
        some.keep(1, true);
        some.hours(1);
        Calls.due("a is OUT: b and c, though a would do", some.changeBest(0), 12);
    }

    private static void changeFirst() {
        Calls.sentence("of alike ones the first");
        RightKeys keys = Calls.told("house a 9 9 0;house b 9 9 0;house c 1 3 0;spare a a;spare b b;lets=0;");
        keys.keep(0, true);
        keys.keep(1, true);
        Calls.due("a and c, b and c are alike", keys.changeBest(0), 2);
        RightKeys two = Calls.told("house c 1 3 0;house a 9 9 0;house b 9 9 0;spare a a;spare b b;lets=0;");
        two.keep(1, true);
        two.keep(2, true);
        Calls.due("c and a, c and b are alike", two.changeBest(0), 1);
    }

    // ---- FREES, WORST, PEAK, GAIN

    private static void freesOthers() {
        Calls.sentence("FREES .. were that one IN (that one not counted)");
        RightKeys keys = behind("house a 0 2 0;house b 0 2 0;house c 0 9 0;lets=inside;", 3);
        Calls.due("a, OUTSIDE: b alone is counted", keys.frees(0), 1);
        Calls.due("b, OUTSIDE: a's left is c, OUT", keys.frees(1), 0);
        Calls.due("c, OUT: a, then b", keys.frees(2), 2);
        Calls.due("nobody is OUTSIDE", Calls.told(STUCK).frees(0), 0);
        Calls.due("who is IN already: a, who had not waited then",
            behind("house a 1 3 0;house b 9 9 0;lets=waited;", 4).frees(1), 1);
        Calls.due("alone", Calls.told("house a 1 3 0;").frees(0), 0);
        RightKeys again = behind("house a 1 3 0;house b 9 9 0;house c 4 7 0;", 4);
        Calls.due("a was let in", again.count(13), 1);
        Calls.due("which does not count now", again.frees(1), 0);
    }

    private static void freesOneAfterAnother() {
        Calls.sentence("would be let IN now, one after another");
        RightKeys keys = behind(Calls.houses(8, "0 2 0") + "lets=if inside<1 then 0 else inside+which-6;", 3);
        Calls.due("all stand", keys.count(6), 255);
        Calls.due("h in: g, f, e, d, c, b, a", keys.frees(7), 7);
        Calls.due("e in: g and h, then f, d, c, b, a", keys.frees(4), 7);
    }

    private static void worstFirst() {
        Calls.sentence("WORST .. who stands OUTSIDE behind most of them, of alike ones the first; how many");
        RightKeys keys = Calls.told("house a 0 5 0;house b 0 3 0;house c 0 3 0;lets=0;");
        Calls.due("b and c alike", keys.worst(24, 0), 1);
        Calls.due("hours", keys.worst(24, 1), 21);
        Calls.due("nobody: the first", keys.worst(3, 0), 0);
        Calls.due("nobody: 0", keys.worst(3, 1), 0);
        Calls.due("the last", Calls.told("house a 0 5 0;house b 0 3 0;house c 0 2 0;lets=0;").worst(24, 0), 2);
    }

    private static void worstHours() {
        Calls.sentence("WORST for n hours from now (1 .. 72)");
        Calls.due("72 from 1 on", night(1).worst(72, 1), 1);
        Calls.due("71 from 1 on", night(1).worst(71, 1), 0);
        Calls.due("72 from 0 on", night(0).worst(72, 1), 0);
        Calls.due("1", behind(STUCK, 3).worst(1, 1), 1);
        Calls.due("1, the hour ahead", behind(STUCK, 2).worst(1, 1), 0);
        Calls.due("0", behind(STUCK, 3).worst(0, 1), -1);
        Calls.due("73", behind(STUCK, 3).worst(73, 1), -1);
    }

    private static void peakFirst() {
        Calls.sentence("PEAK .. the first of them behind which most stand OUTSIDE; how many");
        RightKeys keys = Calls.told("house a 0 3 0;house b 0 5 0;house c 4 9 0;lets=0;");
        Calls.due("one from 3 on", keys.peak(5, 0), 3);
        Calls.due("two from 5 on, the first", keys.peak(9, 0), 5);
        Calls.due("two", keys.peak(9, 1), 2);
        Calls.due("three at 9", keys.peak(10, 0), 9);
        Calls.due("three", keys.peak(72, 1), 3);
        Calls.due("as many on other days: the first", keys.peak(72, 0), 9);
        Calls.due("nobody: this hour", keys.peak(3, 0), 0);
        Calls.due("nobody: none", keys.peak(3, 1), 0);
    }

    private static void peakHours() {
        Calls.sentence("PEAK for n hours");
        Calls.due("72 from 1 on", night(1).peak(72, 0), 71);
        Calls.due("71 from 1 on", night(1).peak(71, 1), 0);
        Calls.due("72 from 0 on", night(0).peak(72, 1), 0);
        Calls.due("1: this hour", behind(STUCK, 3).peak(1, 1), 1);
        Calls.due("1, its hour", behind(STUCK, 3).peak(1, 0), 0);
        Calls.due("0", behind(STUCK, 3).peak(0, 0), -1);
        Calls.due("73", behind(STUCK, 3).peak(73, 0), -1);
    }

    private static void gainHours() {
        Calls.sentence("GAIN .. STAND of all for 72 hours .. were it in the letterbox of its own door now");
        Calls.due("the hour 72 does not count", night(0).gain(1), 0);
        Calls.due("from 1 on it does", night(1).gain(1), 1);
        Calls.due("it is there already", night(1).gain(0), 0);
    }

    /** With its goal to the right of a the SPARE is in a's letterbox on the day 0; were it there now, it would be gone then. */
    private static void gainBelowZero() {
        Calls.sentence("23: GAIN (may be below 0)");
        RightKeys keys = Calls.told("house a 1 3 0;house b 9 9 0;house c 9 9 0;spare a c;lets=0;");
        keys.keep(1, true);
        keys.keep(2, true);
        keys.pass(0, 1);
        Calls.due("a stands on the days 1 and 2", keys.stand(-1, 72), 22 + 21);
        Calls.due("and would on the day 0", keys.gain(0), -22);
    }

    // ---- DAYS, SOONEST, RENTS

    private static void daysRound() {
        Calls.sentence("DAYS of a SPARE to a HOUSE: how often it must go to the right");
        RightKeys keys = Calls.told(Calls.houses(8, "1 2 0") + "spare a a;spare a h;spare a d;");
        Calls.due("from the first to the last", keys.days(0, 7), 7);
        Calls.due("from the last to the first", keys.days(1, 0), 1);
        Calls.due("to the left is all round", keys.days(2, 2), 7);
        Calls.due("to the right", keys.days(2, 4), 1);
        Calls.due("there", keys.days(1, 7), 0);
        Calls.due("a ring of one", Calls.told("house a 1 2 0;spare a a;").days(0, 0), 0);
        keys.pass(0, 0);
        Calls.due("whatever its goal is", keys.days(0, 5), 5);
    }

    private static void soonestFirst() {
        Calls.sentence("SOONEST to a HOUSE of all SPARES to its door: which takes fewest DAYS, of alike ones the first");
        RightKeys keys = Calls.told("house a 1 2 0;house b 1 2 0;house c 1 2 0;spare a b;spare b a;spare a c;spare a c;spare b b;");
        Calls.due("two alike", keys.soonest(0, 0), 2);
        Calls.due("a day", keys.soonest(0, 1), 1);
        Calls.due("the SPARE 0 alike", Calls.told("house a 1 2 0;house b 1 2 0;spare a b;spare a b;").soonest(0, 0), 0);
        Calls.due("there", keys.soonest(1, 0), 4);
        Calls.due("no day", keys.soonest(1, 1), 0);
        Calls.due("none to the door", keys.soonest(2, 0), -2);
        Calls.due("none to the door, DAYS", keys.soonest(2, 1), -2);
    }

    private static void rentsHours() {
        Calls.sentence("RENTS: of all HOUSES now, together; behind n HOURS (0 .. 72)");
        RightKeys keys = Calls.told("house a 1 3 0;house b 5 9 0;rent=hour+24*day+which;");
        Calls.due("0: now", keys.rents(0), 0 + 1);
        Calls.due("1", keys.rents(1), 1 + 2);
        Calls.due("72", keys.rents(72), 72 + 73);
        Calls.due("-1", keys.rents(-1), -1);
        Calls.due("73", keys.rents(73), -1);
        keys.hours(20);
        Calls.due("0: now, at 20", keys.rents(0), 20 + 21);
    }

    // ---- SHUT, IN n HOURS, YEAR

    private static void shutHours() {
        Calls.sentence("SHUT .. behind this and the next 23 hours at some time");
        Calls.due("the hour 24 is none of them", night(0).shut(1), 0);
        Calls.due("from 1 on it is the last of them", night(1).shut(1), 1);
        Calls.due("this hour", night(24).shut(1), 1);
    }

    private static void shutNotElse() {
        Calls.sentence("but would not else");
        RightKeys keys = Calls.told("house a 1 3 0;house b 9 9 0;house c 2 5 0;");
        Calls.due("a stands at 3 and 4, c OUT or not for good", keys.shut(2), 0);
        Calls.due("c: b being OUT", keys.shut(1), 4);
        Calls.due("the one who is OUT does not stand", keys.shut(0), 0);
        Calls.due("alone", Calls.told("house a 1 3 0;").shut(0), 0);
    }

    private static void shutForGood() {
        Calls.sentence("were that one OUT from now on for good");
        RightKeys keys = Calls.told("house a 1 7 0;house b 5 6 0;");
        Calls.due("b does not come at 6, so a stands at 7", keys.shut(1), 1);
        RightKeys outside = behind("house a 0 2 0;house b 0 2 0;lets=inside+outside-1;", 2);
        Calls.due("a and b would let one another in", outside.stand(-1, 1), 0);
        Calls.due("b does not come, so a stands", outside.shut(1), 1);
        RightKeys late = behind("house a 1 3 0;house b 2 3 0;late=if which<1 then 0 else 100;", 4);
        Calls.due("b was LATE", late.house(1, 8), 1);
        Calls.due("b, who would let a in now, does not come", late.shut(1), 1);
        RightKeys stands = behind("house a 1 3 0;house b 1 5 0;house c 2 9 0;", 4);
        Calls.due("a stands OUTSIDE", stands.count(6), 1);
        Calls.due("and would let b in at 5, were a not OUT", stands.shut(0), 2);
        RightKeys never = behind(STUCK, 4);
        never.tell(0, false);
        Calls.due("a, OUTSIDE now, stands no more, being OUT", never.overslept(1, 1), 1);
    }

    private static void thenHours() {
        Calls.sentence("IN n HOURS (0 .. 72): where one is");
        RightKeys keys = night(0);
        Calls.due("0: now", night(23).then(0, 0, 0), 1);
        Calls.due("72: behind the hour 71", keys.then(0, 72, 0), 1);
        Calls.due("72 from 1 on: behind the hour 72", night(1).then(0, 72, 0), 2);
        Calls.due("waited then", night(1).then(0, 72, 1), 1);
        Calls.due("71 from 1 on", night(1).then(0, 71, 0), 1);
        Calls.due("-1", keys.then(0, -1, 0), -1);
        Calls.due("73", keys.then(0, 73, 0), -1);
    }

    private static void thenMore() {
        Calls.sentence("QUARRELS more");
        RightKeys keys = behind(STUCK + "quarrel=5;", 5);
        Calls.due("so far", keys.count(7), 10);
        Calls.due("0: none more", keys.then(0, 0, 2), 0);
        Calls.due("1: five more, not fifteen", keys.then(0, 1, 2), 5);
        Calls.due("72 from 1 on: one", night(1).then(0, 72, 2), 1);
        Calls.due("72 from 0 on: none", night(0).then(0, 72, 2), 0);
    }

    /** LOTs of the house 0 at 3 by the SEEDS from 0 on: 23 19 0 14 63 64 27 21 91 64 12 82 9 55 4 2 16 93 88 3, then 68. */
    private static void yearSeeds() {
        Calls.sentence("YEAR by s SEEDS (1 .. 20) from the text's SEED on");
        RightKeys keys = Calls.told(STUCK + "late=4;");
        Calls.due("1: the text's own, who is not LATE and stands", keys.year(4, 1), 0);
        Calls.due("2", keys.year(4, 2), 0);
        Calls.due("3: LATE by 2", keys.year(4, 3), 1);
        Calls.due("19", keys.year(4, 19), 2);
        Calls.due("20: LATE by 19, too", keys.year(4, 20), 3);
        Calls.due("0", keys.year(4, 0), -1);
        Calls.due("21", keys.year(4, 21), -1);
        Calls.due("from 2 on: 2 itself", Calls.told(STUCK + "late=4;seed 2;").year(4, 1), 1);
        Calls.due("from 3 on", Calls.told(STUCK + "late=4;seed 3;").year(4, 1), 0);
        Calls.sentence("YEAR .. from the text's SEED on, beyond 9999 (LOTs by 9999, 10000 ..: 60 70 45)");
        Calls.due("9999", Calls.told(STUCK + "late=61;seed 9999;").year(4, 1), 1);
        Calls.due("10000 is not 0", Calls.told(STUCK + "late=61;seed 9999;").year(4, 2), 1);
        Calls.due("10001", Calls.told(STUCK + "late=61;seed 9999;").year(4, 3), 2);
    }

    private static void yearHours() {
        Calls.sentence("in how many of them nobody is OUTSIDE behind n HOURS (0 .. 72)");
        Calls.due("0: nobody is now", Calls.told(STUCK).year(0, 20), 20);
        Calls.due("0: a is now", behind(STUCK, 4).year(0, 20), 0);
        Calls.due("3: not yet", Calls.told(STUCK).year(3, 5), 5);
        Calls.due("4: a is", Calls.told(STUCK).year(4, 5), 0);
        Calls.due("72 from 1 on", night(1).year(72, 2), 0);
        Calls.due("71 from 1 on", night(1).year(71, 2), 2);
        Calls.due("behind them, not at some time ahead", Calls.told("house a 1 3 0;house b 2 4 0;").year(5, 1), 1);
        Calls.due("-1", Calls.told(STUCK).year(-1, 1), -1);
        Calls.due("73", Calls.told(STUCK).year(73, 1), -1);
    }

    // ---- IV

    private static void toldHours() {
        Calls.sentence("TOLD: that behind the next 24 hours at some time one had stood OUTSIDE, or never");
        RightKeys ahead = night(0);
        ahead.tell(0, true);
        Calls.due("the hour 24 is none of them", ahead.overslept(1, 0), 0);
        RightKeys last = night(1);
        last.tell(0, true);
        Calls.due("from 1 on it is the last of them: b", last.overslept(1, 1), 2);
        RightKeys never = night(1);
        never.tell(0, false);
        Calls.due("never: a", never.overslept(1, 1), 1);
        RightKeys turned = Calls.told("house b 5 6 0;house a 22 0 0;");
        turned.keep(0, true);
        Calls.due("ask: at 0 nobody tells anything", turned.ask(0), 0);
        turned.hours(1);
        Calls.due("ask: at 1 a does", turned.ask(0), 1);
    }

    private static void toldTwenty() {
        Calls.sentence("20 at most, numbered from 0 on");
        RightKeys keys = Calls.told(STUCK);
        for (int i = 0; i < 20; i++) {
            Calls.due("tell", keys.tell(0, true), i);
        }
        Calls.due("the 21st", keys.tell(0, true), -1);
        Calls.due("20 are there", keys.count(11), 20);
        Calls.due("known by 20", keys.overslept(20, 1), 2);
    }

    private static void knownByFirst() {
        Calls.sentence("KNOWN by k: the first k");
        RightKeys keys = Calls.told(STUCK);
        for (int i = 0; i < 19; i++) {
            keys.tell(0, true);
        }
        keys.tell(0, false);
        Calls.due("0: anybody", keys.overslept(0, 1), 3);
        Calls.due("1", keys.overslept(1, 1), 2);
        Calls.due("19", keys.overslept(19, 1), 2);
        Calls.due("20: the last one speaks against it", keys.overslept(20, 1), 0);
        Calls.due("ask by 19", keys.ask(19), 0);
        Calls.due("ask by 20", keys.ask(20), -2);
    }

    private static void nobodyFits() {
        Calls.sentence("OVERSLEPT: who that may have been, so that all that is KNOWN is so: how many; which (bits)");
        RightKeys keys = Calls.told(STUCK);
        Calls.due("nothing KNOWN: all", keys.overslept(0, 0), 2);
        keys.tell(1, true);
        Calls.due("nobody", keys.overslept(1, 0), 0);
        Calls.due("no bits", keys.overslept(1, 1), 0);
        Calls.due("no HOUSES", new RightKeys().overslept(0, 0), 0);
    }

    /** Without a or b both c and d stand, without c d alone, without d nobody. */
    private static void askAtWorst() {
        Calls.sentence("ASK: whom, so that, once it is told, fewest are left, at worst");
        RightKeys keys = Calls.told("house a 9 9 0;house b 9 9 0;house c 1 3 0;house d 1 3 0;"
            + "lets=if which<3 then inside-1 else inside-2;");
        Calls.due("nothing is KNOWN", keys.overslept(0, 0), 4);
        Calls.due("asking c leaves two, asking d three", keys.ask(0), 2);
        keys.tell(2, true);
        Calls.due("a or b", keys.overslept(1, 1), 3);
        Calls.due("nothing tells them apart: the first", keys.ask(1), 0);
    }

    private static void askFirst() {
        Calls.sentence("ASK .. of alike ones the first");
        RightKeys keys = Calls.told("house a 1 3 0;house b 1 3 0;house c 1 3 0;house d 1 3 0;lets=inside+outside-3;");
        Calls.due("each stands without each other: three and one", keys.ask(0), 0);
        Calls.due("one HOUSE", Calls.told("house a 1 3 0;").ask(0), 0);
        Calls.due("nobody is left", new RightKeys().ask(0), -2);
    }
}
