/** Part II of the document, how LAWS are worked out and how an hour goes: each sentence that names an edge has a test of its own. */
public final class EdgeHoursTest {
    /** 2 to the 31st, which wraps to the least int, and the greatest int, made without wrapping. */
    private static final String LEAST = "(8192*8192*32)";
    private static final String GREATEST = "(8192*8192*31+8192*8191+8191)";

    public static void main(String[] args) {
        hourOfTheDay();
        theDay();
        firstIf();
        lessThan();
        wraps();
        towardsZero();
        dividedByZero();
        notLookedAt();
        everyLawDividedByZero();
        varsNotTold();
        varsTold();
        varsForAll();
        letsMoreThanZero();
        letsWaited();
        quarrelWaited();
        quarrelHeld();
        rentHeld();
        lateHeld();
        lots();
        leftOpens();
        rightOpens();
        ringWraps();
        sparesOpen();
        oneHouse();
        goes();
        comes();
        notTheOneWhoWent();
        notTwiceOnEnd();
        lateOverMidnight();
        ownKeyFirst();
        roundsAgain();
        noQuarrelOfWhoIsIn();
        quarrelsAtMost();
        sparesAtHourZero();
        sparesAheadOfAll();
        sparesThere();
        sparesWrap();
        keptIn();
        bothIn();
        Calls.end();
    }

    private static RightKeys behind(String text, int hours) {
        return Calls.behind(text, hours);
    }

    private static void rent(String law, int want) {
        Calls.due("rent=" + law, Calls.told("house a 1 2 5;rent=" + law + ";").house(0, 9), want);
    }

    // ---- LAWS

    private static void hourOfTheDay() {
        Calls.sentence("the hour of the day: its rest by 24");
        for (int hour : new int[] {0, 1, 23, 24, 25, 47, 48, 71, 72, 240}) {
            RightKeys keys = behind("house a 1 2 0;rent=hour;", hour);
            Calls.due("hour of " + hour, keys.house(0, 9), hour % 24);
            Calls.due("count(3) of " + hour, keys.count(3), hour % 24);
        }
    }

    private static void theDay() {
        Calls.sentence("the day: it by 24");
        int[][] days = {{0, 0}, {23, 0}, {24, 1}, {47, 1}, {48, 2}, {72, 3}, {239, 9}, {240, 10}};
        for (int[] day : days) {
            Calls.due("day of " + day[0], behind("house a 1 2 0;rent=day;", day[0]).house(0, 9), day[1]);
        }
    }

    private static void firstIf() {
        Calls.sentence("LAWS: the E of the first if that holds .. else the last one");
        rent("if 1<2 then 3 else if 1<2 then 4 else 5", 3);
        rent("if 2<1 then 3 else if 1<2 then 4 else 5", 4);
        rent("if 2<1 then 3 else if 2<1 then 4 else 5", 5);
        rent("if 2<1 then 3 else if 2<1 then 4 else if 2<1 then 5 else if 1<2 then 6 else 7", 6);
        rent("if 2<1 then 3 else if 2<1 then 4 else if 2<1 then 5 else if 2<1 then 6 else 7", 7);
    }

    private static void lessThan() {
        Calls.sentence("(one less than the other)");
        rent("if 4<5 then 1 else 2", 1);
        rent("if 5<5 then 1 else 2", 2);
        rent("if 6<5 then 1 else 2", 2);
        rent("if 0-1<0 then 1 else 2", 1);
        rent("if 0<0-1 then 1 else 2", 2);
        rent("if " + LEAST + "<1 then 1 else 2", 1);
        rent("if 1<" + LEAST + " then 1 else 2", 2);
        rent("if " + GREATEST + "<0-1 then 1 else 2", 2);
        rent("if 0-2<" + GREATEST + " then 1 else 2", 1);
    }

    private static void wraps() {
        Calls.sentence("ints of 32 bits that wrap");
        rent("if " + GREATEST + "<0 then 1 else 2", 2);
        rent("if " + GREATEST + "+1<0 then 1 else 2", 1);
        rent("if " + LEAST + "<0 then 1 else 2", 1);
        rent("if " + LEAST + "-1<0 then 1 else 2", 2);
        rent("if 0-" + LEAST + "<0 then 1 else 2", 1);
        rent("8192*8*8192*8+5", 5);
        rent("8192*8*8192*8-8192*8*8192*8*9999+6", 6);
        rent(GREATEST + "*" + GREATEST, 1);
        rent(GREATEST + "+" + GREATEST + "+5", 3);
        rent("if " + LEAST + "/(0-1)<0 then 1 else 2", 1);
    }

    private static void towardsZero() {
        Calls.sentence("/ rounded towards 0");
        rent("7/2", 3);
        rent("10+(0-7)/2", 7);
        rent("10+7/(0-2)", 7);
        rent("(0-7)/(0-2)", 3);
        rent("10+(0-1)/2", 10);
        rent("10+1/(0-9999)", 10);
        rent("10+(0-8)/2", 6);
    }

    private static void dividedByZero() {
        Calls.sentence("a LAW in which something that is looked at is divided by 0 is 0");
        rent("5/0", 0);
        rent("0/0", 0);
        rent("50+5/0", 0);
        rent("5/0+50", 0);
        rent("50+0*(5/(3-3))", 0);
        rent("50+5/hour", 0);
        rent("if 5/0<1 then 3 else 4", 0);
        rent("if 1<5/0 then 3 else 4", 0);
        rent("if 1<2 then 5/0 else 4", 0);
        rent("if 2<1 then 3 else 5/0", 0);
        rent("if 2<1 then 3 else if 5/0<1 then 4 else 5", 0);
        rent("5/1+50", 55);
        rent("50+5/(0-1)", 45);
        rent("0/5+50", 50);
    }

    private static void notLookedAt() {
        Calls.sentence("something that is looked at");
        rent("if 1<2 then 3 else 5/0", 3);
        rent("if 2<1 then 5/0 else 4", 4);
        rent("if 1<2 then 3 else if 5/0<1 then 4 else 5", 3);
        rent("if 2<1 then 5/0 else if 1<2 then 4 else 5/0", 4);
    }

    /** The LOT of a at 3 is 0 by the SEED 2, so that 1 is LATE. */
    private static void everyLawDividedByZero() {
        Calls.sentence("a LAW .. divided by 0 is 0: LETS, QUARREL, RENT, LATE");
        Calls.due("LETS", Calls.told("house a 1 2 0;house b 1 2 0;lets=1+1/0;").lets(0, 1), 0);
        Calls.due("QUARREL", behind("house a 1 3 0;house b 9 9 0;lets=0;quarrel=5+1/0;", 4).count(7), 0);
        Calls.due("RENT", Calls.told("house a 1 2 0;rent=5+1/0;").count(16), 0);
        Calls.due("LATE", behind("house a 1 3 0;seed 2;late=1+1/0;", 4).house(0, 8), 0);
        Calls.due("LATE, else", behind("house a 1 3 0;seed 2;late=1+1/1;", 4).house(0, 8), 1);
    }

    /** Squares, so that what is below 0 would be seen, too. */
    private static void varsNotTold() {
        Calls.sentence("a VAR not told for a LAW is 0 in it");
        String outside = "house a 1 3 5;house b 1 9 6;spare a b;spare b a;spare b a;";
        Calls.due("LETS: keys", Calls.told(outside + "lets=keys*keys;").lets(0, 1), 0);
        Calls.due("LETS: keys, other way", Calls.told(outside + "lets=keys*keys;").lets(1, 0), 0);
        Calls.due("QUARREL: other, keys", behind(outside + "lets=0;quarrel=other*other+keys*keys;", 8).count(7), 0);
        RightKeys rent = behind(outside + "lets=0;rent=waited*waited+other*other;", 8);
        Calls.due("a waited", rent.house(0, 4), 5);
        Calls.due("RENT: waited, other", rent.house(0, 9), 0);
        Calls.due("LATE: waited, other, keys", behind(outside + "late=100*(waited*waited+other*other+keys*keys);", 4).house(0, 8), 0);
    }

    private static void varsTold() {
        Calls.sentence("LETS .. (.. temper: the opener's, other: that one's; which: the HOUSE of that one)");
        String three = "house a 1 2 9;house b 1 2 0;house c 1 2 4;lets=";
        RightKeys temper = Calls.told(three + "temper-4;");
        Calls.due("temper of a", temper.lets(0, 1), 1);
        Calls.due("temper of c", temper.lets(2, 0), 0);
        RightKeys other = Calls.told(three + "other-4;");
        Calls.due("other: a", other.lets(1, 0), 1);
        Calls.due("other: c", other.lets(0, 2), 0);
        RightKeys which = Calls.told(three + "which-1;");
        Calls.due("which: c", which.lets(0, 2), 1);
        Calls.due("which: b", which.lets(2, 1), 0);
        Calls.sentence("QUARREL .. (waited ..; temper; which)");
        String stuck = "house a 9 9 1;house b 1 3 7;lets=0;";
        Calls.due("b: 70 + 1", behind(stuck + "quarrel=temper*10+which;", 4).count(7), 71);
        Calls.sentence("RENT of a HOUSE (which; temper; keys: how many SPARES are in its letterbox)");
        RightKeys rent = Calls.told("house a 1 2 3;house b 1 2 4;house c 1 2 5;spare a b;spare a a;spare b b;spare c b;"
            + "rent=which*30+temper+keys*10;");
        Calls.due("a: 3 and one SPARE", rent.house(0, 9), 13);
        Calls.due("b: 30 + 4 and three SPARES", rent.house(1, 9), 64);
        Calls.due("c: 60 + 5 and none", rent.house(2, 9), 65);
        Calls.sentence("LATE of one (temper; which: their HOUSE)");
        String late = "house a 1 3 4;house b 1 3 9;house c 1 3 4;late=if temper<5 then which*50 else 0;";
        Calls.due("c alone", behind(late, 4).house(2, 8), 1);
        Calls.due("not a", behind(late, 4).house(0, 8), 0);
        Calls.due("not b", behind(late, 4).house(1, 8), 0);
    }

    private static void varsForAll() {
        Calls.sentence("hour (of the day), day, inside, outside (how many are IN, OUTSIDE) for all");
        String two = "house a 1 3 0;house b 9 9 0;";
        String day = "if day<1 then 0 else if hour<1 then 0 else ";
        Calls.due("LETS at 24", behind(two + "lets=" + day + "inside;", 24).lets(0, 1), 0);
        Calls.due("LETS at 25", behind(two + "lets=" + day + "1;", 25).lets(0, 1), 1);
        Calls.due("LETS: outside", behind(two + "lets=outside;", 4).house(0, 3), 0);
        Calls.due("LETS: inside, b alone", behind(two + "lets=2-inside;", 4).house(0, 3), 0);
        Calls.due("QUARREL: hour 3, inside 1, outside 1", behind(two + "lets=0;quarrel=hour*10+inside*4+outside*3+day;", 4).count(7), 37);
        Calls.due("RENT: hour 4, inside 1, outside 1", behind(two + "lets=0;rent=hour*10+inside*4+outside*3+day;", 4).house(0, 9), 47);
        Calls.due("LATE: nobody outside, one inside", behind(two + "lets=0;late=100*(inside-outside);", 4).house(0, 8), 1);
        Calls.due("LATE: hour, day", behind(two + "lets=0;late=33*hour*(1-day)+1;", 4).house(0, 8), 1);
    }

    private static void letsMoreThanZero() {
        Calls.sentence("LETS .. more than 0: they do");
        String two = "house a 9 9 0;house b 1 3 0;lets=";
        Calls.due("1", behind(two + "1;", 4).house(1, 3), 0);
        Calls.due("0", behind(two + "0;", 4).house(1, 3), 2);
        Calls.due("-1", behind(two + "0-1;", 4).house(1, 3), 2);
        Calls.due("the greatest", behind(two + GREATEST + ";", 4).house(1, 3), 0);
        Calls.due("the least", behind(two + LEAST + ";", 4).house(1, 3), 2);
    }

    private static void letsWaited() {
        Calls.sentence("LETS (waited: for how many hours on end that one stood there ahead of this hour");
        String two = "house a 9 9 0;house b 1 3 0;lets=";
        Calls.due("0 as b comes", behind(two + "1-waited;", 4).house(1, 3), 0);
        Calls.due("not 1 as b comes", behind(two + "waited;", 4).house(1, 3), 2);
        Calls.due("1 an hour later", behind(two + "waited;", 5).house(1, 3), 0);
        Calls.due("not 2 an hour later", behind(two + "waited-1;", 5).house(1, 3), 2);
        Calls.due("2 two hours later", behind(two + "waited-1;", 6).house(1, 3), 0);
        RightKeys again = behind("house a 3 1 0;house b 0 9 0;lets=0;", 27);
        Calls.due("a stood at 1 and 2", again.house(0, 4), 2);
        again.hours(24 + 23);
        Calls.due("on end: at 1 of the day behind the next", again.house(0, 4), 1);
    }

    private static void quarrelWaited() {
        Calls.sentence("QUARREL of one who stands OUTSIDE behind an hour (waited, as it is then");
        String two = "house a 9 9 0;house b 1 3 0;lets=0;quarrel=";
        Calls.due("1 behind the first", behind(two + "waited;", 4).count(7), 1);
        Calls.due("2 behind the second", behind(two + "waited;", 5).count(7), 1 + 2);
    }

    private static void quarrelHeld() {
        Calls.sentence("QUARREL .. held to 0 .. 99");
        String two = "house a 9 9 0;house b 1 3 0;lets=0;quarrel=";
        int[][] rows = {{0, 0}, {1, 1}, {98, 98}, {99, 99}, {100, 99}, {9999, 99}};
        for (int[] row : rows) {
            Calls.due("" + row[0], behind(two + row[0] + ";", 4).count(7), row[1]);
        }
        Calls.due("-1", behind(two + "0-1;", 4).count(7), 0);
        Calls.due("the least", behind(two + LEAST + ";", 4).count(7), 0);
        Calls.due("the greatest", behind(two + GREATEST + ";", 4).count(7), 99);
        Calls.due("-1 takes nothing away", behind(two + "3-2*waited;", 6).count(7), 1);
    }

    private static void rentHeld() {
        Calls.sentence("RENT .. held to 0 .. 99");
        rent("0-1", 0);
        rent("0", 0);
        rent("1", 1);
        rent("98", 98);
        rent("99", 99);
        rent("100", 99);
        rent("9999", 99);
        rent(LEAST, 0);
        rent(GREATEST, 99);
        Calls.due("each of two is held, not both together", Calls.told("house a 1 2 0;house b 1 2 0;rent=100;").count(16), 198);
        Calls.due("each below 0, too", Calls.told("house a 1 2 0;house b 1 2 0;rent=which*10-5;").count(16), 5);
    }

    /** LOTs of a at 3: by the SEED 2 0, by 94 99. */
    private static void lateHeld() {
        Calls.sentence("LATE .. held to 0 .. 100");
        String[][] laws = {{"0-1", "0"}, {"0", "0"}, {LEAST, "0"}, {"1", "1"}, {"99", "1"}, {"100", "1"}};
        for (String[] law : laws) {
            Calls.due("LOT 0, late=" + law[0], behind("house a 1 3 0;seed 2;late=" + law[0] + ";", 4).house(0, 8), law[1].charAt(0) - '0');
        }
        String[][] high = {{"98", "0"}, {"99", "0"}, {"100", "1"}, {"101", "1"}, {GREATEST, "1"}};
        for (String[] law : high) {
            Calls.due("LOT 99, late=" + law[0], behind("house a 1 3 0;seed 94;late=" + law[0] + ";", 4).house(0, 8), law[1].charAt(0) - '0');
        }
    }

    /** The LOTs were found by another program: of the HOUSE 0 at 3 of three days, and of eight HOUSES at 3 of the first. */
    private static void lots() {
        Calls.sentence("LOT 100 of the SEED and 32 * the hour, counted on, and the HOUSE's number is less than LATE");
        int[] lots = {0, 76, 96};
        for (int day = 0; day < 3; day++) {
            String text = "house a 1 3 0;seed 2;late=";
            Calls.due("day " + day + ", one more", behind(text + (lots[day] + 1) + ";", 24 * day + 4).house(0, 8), 1);
            Calls.due("day " + day + ", as much", behind(text + lots[day] + ";", 24 * day + 4).house(0, 8), 0);
        }
        int[] eight = {60, 93, 76, 3, 93, 52, 87, 32};
        for (int house = 0; house < 8; house++) {
            String text = Calls.houses(8, "1 3 0") + "seed 9999;late=";
            Calls.due("house " + house + ", one more", behind(text + (eight[house] + 1) + ";", 4).house(house, 8), 1);
            Calls.due("house " + house + ", as much", behind(text + eight[house] + ";", 4).house(house, 8), 0);
        }
    }

    // ---- who CAN open

    private static void leftOpens() {
        Calls.sentence("CAN open the door of a HOUSE: who lives to its left, not OUT");
        Calls.due("IN", behind("house a 9 9 0;house b 1 3 0;house c 0 8 0;", 4).by(1), 0);
        Calls.due("OUTSIDE", behind("house a 1 3 0;house b 1 3 0;house c 0 8 0;", 4).by(1), 0);
        Calls.due("OUT", behind("house a 1 5 0;house b 1 3 0;house c 9 9 0;", 4).house(1, 3), 2);
        RightKeys keys = behind("house a 1 5 0;house b 1 3 0;house c 9 9 0;lets=0;", 4);
        Calls.due("OUT is no opener", keys.openers(1), 0);
        keys.hours(2);
        Calls.due("OUTSIDE is one", keys.openers(1), 1);
    }

    private static void rightOpens() {
        Calls.sentence("who lives to its right, not OUT, if their key is for BOTH");
        Calls.due("not for BOTH", behind("house a 0 8 0;house b 1 3 0;house c 9 9 0;", 4).house(1, 3), 2);
        Calls.due("IN", behind("house a 0 8 0;house b 1 3 0;house c 9 9 0;both c;", 4).by(1), 2);
        Calls.due("OUTSIDE", behind("house a 0 8 0;house b 1 3 0;house c 1 3 0;both c;", 4).by(1), 2);
        Calls.due("OUT", behind("house a 0 8 0;house b 1 3 0;house c 1 5 0;both c;", 4).house(1, 3), 2);
        Calls.due("the left one's BOTH does not help", behind("house a 0 8 0;house b 1 3 0;house c 9 9 0;both a;both b;", 4).house(1, 3), 2);
    }

    private static void ringWraps() {
        Calls.sentence("in a ring: to the right of each is the next one, of the last one the first");
        Calls.due("the last opens for the first", behind("house a 1 3 0;house b 0 8 0;house c 9 9 0;", 4).by(0), 2);
        Calls.due("the first, with BOTH, for the last", behind("house a 9 9 0;house b 0 8 0;house c 1 3 0;both a;", 4).by(2), 0);
        Calls.due("the first, without, does not", behind("house a 9 9 0;house b 0 8 0;house c 1 3 0;", 4).house(2, 3), 2);
        String eight = Calls.houses(8, "1 2 3");
        Calls.due("openers of the first of 8", Calls.told(eight).openers(0), 128);
        Calls.due("openers of the last of 8", Calls.told(eight + "both a;").openers(7), 64 + 1);
        Calls.due("of two both are left and right", behind("house a 1 3 0;house b 9 9 0;", 4).by(0), 1);
    }

    private static void sparesOpen() {
        Calls.sentence("whoever stands before it, if a SPARE to it is in its letterbox");
        String two = "house a 1 3 0;house b 9 9 0;lets=0;";
        Calls.due("it is", behind(two + "spare a a;", 4).house(0, 3), 0);
        Calls.due("one in the other letterbox", behind(two + "spare a b;", 4).house(0, 3), 2);
        Calls.due("one to the other door", behind(two + "spare b a;", 4).house(0, 3), 2);
        Calls.due("none", behind(two, 4).house(0, 3), 2);
        Calls.due("the 6th", behind(two + "spare a b;".repeat(5) + "spare a a;", 4).house(0, 3), 0);
    }

    private static void oneHouse() {
        Calls.sentence("or if the ring is of one HOUSE");
        Calls.due("one", behind("house a 1 3 0;lets=0;", 4).by(0), 0);
        Calls.due("two", behind("house a 1 3 0;house b 1 3 0;lets=0;", 4).count(6), 3);
    }

    // ---- AN HOUR

    private static void goes() {
        Calls.sentence("first who GOES now and is IN, or OUTSIDE, and is not KEPT IN, is OUT (waited 0)");
        RightKeys keys = behind("house a 3 1 0;house b 0 9 0;lets=0;", 3);
        Calls.due("not ahead of 3", keys.house(0, 3), 0);
        keys.hours(1);
        Calls.due("IN at 3: OUT", keys.house(0, 3), 1);
        keys.hours(23);
        Calls.due("OUTSIDE", keys.house(0, 3), 2);
        Calls.due("for 2 hours", keys.house(0, 4), 2);
        keys.hours(1);
        Calls.due("OUTSIDE at 3: OUT", keys.house(0, 3), 1);
        Calls.due("waited 0", keys.house(0, 4), 0);
        Calls.due("at 0", behind("house a 0 9 0;", 1).house(0, 3), 1);
        RightKeys last = behind("house a 23 9 0;", 23);
        Calls.due("not ahead of 23", last.house(0, 3), 0);
        last.hours(1);
        Calls.due("at 23", last.house(0, 3), 1);
    }

    private static void comes() {
        Calls.sentence("then who COMES now .. and is OUT .. stands OUTSIDE");
        RightKeys keys = behind("house a 1 3 0;house b 9 9 0;lets=0;", 3);
        Calls.due("not ahead of 3", keys.house(0, 3), 1);
        keys.hours(1);
        Calls.due("at 3", keys.house(0, 3), 2);
        Calls.due("who is IN stays IN", behind("house a 5 3 0;house b 9 9 0;lets=0;", 4).house(0, 3), 0);
        RightKeys kept = behind("house a 1 3 0;house b 9 9 0;lets=0;", 4);
        kept.keep(0, true);
        kept.hours(24);
        Calls.due("who is OUTSIDE waits on", kept.house(0, 4), 25);
        RightKeys zero = behind("house a 1 0 0;house b 9 9 0;lets=0;", 24);
        Calls.due("not at 23", zero.house(0, 3), 1);
        zero.hours(1);
        Calls.due("at 0 of the next day", zero.house(0, 3), 2);
    }

    private static void notTheOneWhoWent() {
        Calls.sentence("(not one who went in this hour)");
        RightKeys keys = behind("house a 4 4 0;", 5);
        Calls.due("OUT", keys.house(0, 3), 1);
        keys.hours(23);
        Calls.due("OUT all day", keys.house(0, 3), 1);
        keys.hours(1);
        Calls.due("IN a day later: does not go, being OUT", keys.house(0, 3), 0);
    }

    private static void notTwiceOnEnd() {
        Calls.sentence("but if they are LATE (not twice on end");
        RightKeys keys = behind("house a 1 3 0;late=100;", 4);
        Calls.due("LATE", keys.house(0, 8), 1);
        Calls.due("OUT", keys.house(0, 3), 1);
        keys.hours(1);
        Calls.due("not LATE", keys.house(0, 8), 0);
        Calls.due("IN", keys.house(0, 3), 0);
        keys.hours(23);
        Calls.due("LATE again, a day later", keys.house(0, 8), 1);
    }

    private static void lateOverMidnight() {
        Calls.sentence("or was LATE in the hour ahead");
        RightKeys keys = behind("house a 0 23 0;late=100;", 24);
        Calls.due("LATE at 23", keys.house(0, 8), 1);
        keys.hours(1);
        Calls.due("comes at 0, when others go", keys.house(0, 3), 0);
        Calls.due("let in once", keys.count(13), 1);
    }

    private static void ownKeyFirst() {
        Calls.sentence("let IN .. by themselves, or by one to the left, or to the right, who LETS them in");
        String three = "house a 9 9 1;house b 1 3 0;house c 9 9 2;both c;";
        Calls.due("themselves", behind(three + "spare b b;", 4).by(1), 1);
        Calls.due("the left one", behind(three, 4).by(1), 0);
        Calls.due("the right one, the left one not letting", behind(three + "lets=temper-1;", 4).by(1), 2);
        Calls.due("nobody", behind(three + "lets=temper-2;", 4).by(1), -2);
        Calls.due("themselves, whoever lets", behind(three + "spare b b;lets=0;", 4).by(1), 1);
    }

    /** House i is let in as soon as 7 - i are inside, so each round, from the last HOUSE on, lets in one. */
    private static void roundsAgain() {
        Calls.sentence("HOUSE by HOUSE, and again, as long as anybody was let in");
        String eight = Calls.houses(8, "1 3 0");
        RightKeys keys = behind(eight + "spare h h;lets=inside+which-6;", 4);
        Calls.due("eight rounds: all are IN", keys.count(4), 255);
        Calls.due("in the hour itself", keys.count(7), 0);
        Calls.due("eight times", keys.count(13), 8);
        Calls.due("nobody let in: it ends", behind(eight + "lets=inside+which-7;", 4).count(6), 255);
    }

    private static void noQuarrelOfWhoIsIn() {
        Calls.sentence("then all who stand OUTSIDE have waited an hour more");
        RightKeys keys = behind("house a 1 3 0;house b 9 9 0;quarrel=9;", 4);
        Calls.due("let in: no quarrel", keys.count(7), 0);
        Calls.due("let in: waited 0", keys.house(0, 4), 0);
        RightKeys late = behind("house a 1 3 0;house b 9 9 0;quarrel=9;late=100;", 4);
        Calls.due("LATE: no quarrel", late.count(7), 0);
        RightKeys waits = behind("house a 1 3 0;house b 9 9 0;lets=waited;", 4);
        Calls.due("waited 1", waits.house(0, 4), 1);
        waits.hours(1);
        Calls.due("let in: waited 0 again", waits.house(0, 4), 0);
    }

    /** All eight come at 1 and stay OUTSIDE, kept from going: 792 QUARRELS an hour. */
    private static void quarrelsAtMost() {
        Calls.sentence("QUARRELS .. (99,999 at most, all together)");
        RightKeys keys = behind(Calls.houses(8, "0 1 0") + "lets=0;quarrel=99;", 2);
        for (int house = 0; house < 8; house++) {
            keys.keep(house, true);
        }
        keys.hours(72);
        keys.hours(53);
        Calls.due("126 hours", keys.count(7), 99792);
        Calls.due("an hour more: 207, not 792", keys.then(0, 1, 2), 207);
        keys.hours(1);
        Calls.due("99,999", keys.count(7), 99999);
        keys.hours(1);
        Calls.due("no more", keys.count(7), 99999);
        Calls.due("none more then", keys.then(0, 72, 2), 0);
        Calls.sentence("there are as many QUARRELS more as QUARREL tells, one behind the other");
        Calls.due("each is told by itself", behind("house a 0 1 3;house b 0 1 4;lets=0;quarrel=temper*10;", 2).count(7), 70);
    }

    // ---- SPARES that go, and what is done by hand

    private static void sparesAtHourZero() {
        Calls.sentence("As the hour of the day 0 begins (hour 0 itself, too)");
        RightKeys keys = Calls.told("house a 1 2 0;house b 1 2 0;house c 1 2 0;house d 1 2 0;spare a a;");
        keys.pass(0, 3);
        Calls.due("not as the goal is told", keys.spare(0, 1), 0);
        keys.hours(1);
        Calls.due("hour 0 itself", keys.spare(0, 1), 1);
        keys.hours(22);
        Calls.due("not at 1 .. 22", keys.spare(0, 1), 1);
        keys.hours(1);
        Calls.due("not at 23", keys.spare(0, 1), 1);
        keys.hours(1);
        Calls.due("at 24", keys.spare(0, 1), 2);
        keys.hours(24);
        Calls.due("at 48", keys.spare(0, 1), 3);
    }

    private static void sparesAheadOfAll() {
        Calls.sentence("ahead of all else, each SPARE .. goes");
        RightKeys keys = behind("house a 1 0 0;house b 9 9 0;spare a b;lets=0;", 2);
        keys.pass(0, 0);
        keys.hours(22);
        Calls.due("a is OUT", keys.house(0, 3), 1);
        keys.hours(1);
        Calls.due("comes at 0, the SPARE being there", keys.by(0), 0);
        RightKeys away = behind("house a 1 0 0;house b 9 9 0;spare a a;lets=0;", 2);
        away.pass(0, 1);
        away.hours(23);
        Calls.due("or being there no more", away.house(0, 3), 2);
    }

    private static void sparesThere() {
        Calls.sentence("each SPARE that has a goal (a HOUSE) and is not there");
        RightKeys keys = Calls.told("house a 1 2 0;house b 1 2 0;house c 1 2 0;" + "spare a a;".repeat(6));
        keys.pass(0, 0);
        keys.pass(1, 1);
        keys.pass(3, 2);
        keys.pass(5, 2);
        keys.hours(25);
        int[] boxes = {0, 1, 0, 2, 0, 2};
        for (int spare = 0; spare < 6; spare++) {
            Calls.due("SPARE " + spare + " behind two days' beginnings", keys.spare(spare, 1), boxes[spare]);
        }
        keys.pass(3, -1);
        keys.hours(24);
        Calls.due("its goal taken back, it stays", keys.spare(3, 1), 2);
        RightKeys one = Calls.told("house a 1 2 0;spare a a;");
        one.pass(0, 0);
        one.hours(49);
        Calls.due("in a ring of one HOUSE", one.spare(0, 1), 0);
    }

    private static void sparesWrap() {
        Calls.sentence("goes to the letterbox to the right");
        RightKeys keys = Calls.told("house a 1 2 0;house b 1 2 0;house c 1 2 0;spare a c;spare a b;");
        keys.pass(0, 1);
        keys.pass(1, 0);
        keys.hours(1);
        Calls.due("from the last to the first", keys.spare(0, 1), 0);
        Calls.due("from b to c, the long way to a", keys.spare(1, 1), 2);
        keys.hours(24);
        Calls.due("at its goal", keys.spare(0, 1), 1);
        Calls.due("over the last to the first", keys.spare(1, 1), 0);
    }

    private static void keptIn() {
        Calls.sentence("one is KEPT IN (does not go), or no more");
        RightKeys keys = Calls.told("house a 3 9 0;house b 3 9 0;");
        keys.keep(0, true);
        keys.hours(4);
        Calls.due("KEPT IN", keys.house(0, 3), 0);
        Calls.due("the other goes", keys.house(1, 3), 1);
        keys.hours(23);
        keys.keep(0, false);
        keys.hours(1);
        Calls.due("no more: goes at the next 3", keys.house(0, 3), 1);
        keys.keep(0, true);
        Calls.due("KEPT IN while OUT", keys.house(0, 5), 1);
        keys.hours(6);
        Calls.due("comes all the same", keys.house(0, 3), 0);
    }

    private static void bothIn() {
        Calls.sentence("two who are both IN change HOUSES (hours, TEMPER, NAME go with them, and whether they are KEPT IN; "
            + "what is told of a HOUSE itself stays)");
        RightKeys keys = Calls.told("house a 1 2 3;house b 4 5 6;spare a b;spare b a;both a;");
        keys.keep(1, true);
        keys.pass(0, 1);
        Calls.due("change", keys.change(0, 1), true);
        int[] first = {4, 5, 6, 0, 0, 1, 1, 1, 0};
        int[] second = {1, 2, 3, 0, 0, 0, 0, 0, 0};
        for (int what = 0; what < 9; what++) {
            Calls.due("house(0, " + what + ")", keys.house(0, what), first[what]);
            Calls.due("house(1, " + what + ")", keys.house(1, what), second[what]);
        }
        Calls.due("a SPARE's door", keys.spare(0, 0), 0);
        Calls.due("a SPARE's letterbox", keys.spare(0, 1), 1);
        Calls.due("a SPARE's goal", keys.spare(0, 2), 1);
        keys.hours(2);
        Calls.due("who lives in b now goes at 1", keys.house(1, 3), 1);
        Calls.due("who lives in a now is KEPT IN", keys.house(0, 3), 0);
    }
}
