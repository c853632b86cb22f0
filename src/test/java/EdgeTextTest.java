/** Part I of the document and promises 1 to 5: each sentence that names an edge has a test of its own. */
public final class EdgeTextTest {
    private static final String A = "house a 1 2 3;";
    private static final String[] WORDS = ("house spare both lets quarrel rent late seed if then else hour day waited temper other "
        + "which inside outside keys").split(" ");
    private static final int BLANKS = 0x20202020;

    public static void main(String[] args) {
        bytesOfAText();
        blanks();
        namesOfLetters();
        namesOfEight();
        namesAreNoWords();
        ints();
        signs();
        longest();
        noToken();
        noTell();
        lawsWithoutIfs();
        sumsAndProducts();
        eightHouses();
        numberedHouses();
        goHours();
        comeHours();
        tempers();
        sixSpares();
        numberedSpares();
        lawsNotTold();
        lastLaws();
        seeds();
        lastSeed();
        placeIsAByte();
        placeOfTheEnd();
        firstByItsPlace();
        firstOfTwoTells();
        leastOfOnePlace();
        syntax();
        tokens401();
        oneMoreOfASort();
        fifthIf();
        seventhOpen();
        formAheadOfSense();
        twiceNames();
        twiceBoth();
        noSuchHouse();
        wrongAtTheInt();
        senseByPlace();
        faultsChangeNothing();
        newTextInPlace();
        anEmptyTextInPlace();
        textsBehindTexts();
        longTextsBehindLongTexts();
        newObject();
        feedOrder();
        feedFull();
        back();
        backRefused();
        readEmpties();
        readAnew();
        readNumbers();
        place();
        Calls.end();
    }

    private static String houses(int n) {
        return Calls.houses(n, "1 2 3");
    }

    private static String padded(String text, int length) {
        return " ".repeat(length - text.length()) + text;
    }

    // ---- TEXT and TOKENS

    private static void bytesOfAText() {
        Calls.sentence("A TEXT has 2,000 bytes at most");
        Calls.fault(padded(A, 2000), 0, -1);
        Calls.fault(padded(A + "?", 2000), 1, 1999);
        RightKeys keys = new RightKeys();
        Calls.feed(keys, padded(A, 2000));
        Calls.due("feed of the 2,001st byte", keys.feed(0x3f3f3f3f, BLANKS, BLANKS, BLANKS, BLANKS), -1);
        Calls.due("read of 2,000", keys.read(), 0);
        Calls.due("its house", keys.count(0), 1);
    }

    private static void blanks() {
        Calls.sentence("blanks (9, 10, 13, 32) between or not");
        for (int sign = 0; sign < 256; sign++) {
            boolean blank = sign == 9 || sign == 10 || sign == 13 || sign == 32;
            Calls.fault("seed 1;" + (char) sign + "seed 2;", blank ? 0 : 1, blank ? -1 : 7);
        }
        Calls.due("none between", Calls.told("house a1 2 3;both a;lets=if(1)<2then 3else 4;").count(0), 1);
        Calls.due("many between", Calls.told(" \t\r\n house \t\r\n a\n\n1\r\r2\t\t3  ; ").count(0), 1);
        Calls.fault("\t\r\n ", 0, -1);
    }

    private static void namesOfLetters() {
        Calls.sentence("NAMES (letters a .. z");
        for (int sign = 33; sign < 127; sign++) {
            boolean letter = sign >= 'a' && sign <= 'z';
            Calls.fault("house " + (char) sign + " 1 2 3;", letter ? 0 : 1, letter ? -1 : 6);
        }
        Calls.fault("house a\1 1 2 3;", 1, 7);
        Calls.fault("house z{ 1 2 3;", 1, 7);
        Calls.fault("house a` 1 2 3;", 1, 7);
        Calls.fault("house aA 1 2 3;", 1, 7);
        Calls.fault("house a" + (char) 225 + " 1 2 3;", 1, 7);
    }

    private static void namesOfEight() {
        Calls.sentence("NAMES (.. 8 at most");
        Calls.due("1 letter", Calls.told("house q 1 2 3;both q;").house(0, 6), 1);
        Calls.due("8 letters", Calls.told("house zzzzzzzz 1 2 3;both zzzzzzzz;").house(0, 6), 1);
        Calls.fault("house zzzzzzzzz 1 2 3;", 1, 6);
        Calls.fault(A + "both aaaaaaaaa;", 1, 19);
        RightKeys keys = Calls.told("house abcdefgh 1 2 3;house abcdefgi 1 2 3;house bbcdefgh 1 2 3;house abcdefg 1 2 3;both abcdefgi;");
        Calls.due("all eight letters tell them apart", keys.house(1, 6), 1);
        Calls.due("not the first one", keys.house(0, 6), 0);
        RightKeys same = Calls.told("house a 1 2 3;house aa 1 2 3;house aaaaaaaa 1 2 3;house z 1 2 3;house az 1 2 3;house ba 1 2 3;");
        Calls.due("short and long ones are others", same.count(0), 6);
    }

    private static void namesAreNoWords() {
        Calls.sentence("NAMES (.. none of the words in quotes)");
        for (String word : WORDS) {
            Calls.fault("house " + word + " 1 2 3;", 1, 6);
            Calls.fault(A + "both " + word + ";", 1, 19);
            Calls.fault("house z" + word.substring(1) + " 1 2 3;", 0, -1);
            Calls.fault("house " + word + "q 1 2 3;", 0, -1);
            Calls.fault("house " + word.substring(0, word.length() - 1) + "q 1 2 3;", 0, -1);
        }
    }

    private static void ints() {
        Calls.sentence("INTS (1 to 4 digits)");
        Calls.fault("seed ;", 1, 5);
        Calls.fault("seed 0;", 0, -1);
        Calls.fault("seed 9999;", 0, -1);
        Calls.fault("seed 0000;", 0, -1);
        Calls.fault("seed 10000;", 1, 5);
        Calls.fault("seed 00000;", 1, 5);
        Calls.due("4 digits", Calls.told("house a 0023 0022 0009;").house(0, 0), 23);
        Calls.due("a law's 4 digits", Calls.told(A + "rent=9999/101;").count(16), 99);
        Calls.fault("rent=10000;", 1, 5);
        for (int sign = 33; sign < 127; sign++) {
            boolean digit = sign >= '0' && sign <= '9';
            Calls.fault("seed " + (char) sign + ";", digit ? 0 : 1, digit ? -1 : 5);
        }
    }

    private static void signs() {
        Calls.sentence("SIGNS ; = + - * / < ( )");
        Calls.due("all of them", Calls.told(A + "rent=if 1<2then(2+3)*4-6/2else 0;").count(16), 17);
        for (String sign : "> , . : ! [ ] { } % & | ^ ~ # @ $ _ ' \" \\ ?".split(" ")) {
            Calls.fault("rent=1" + sign + "2;", 1, 6);
        }
    }

    private static void longest() {
        Calls.sentence("TOKENS, the longest that can be");
        Calls.fault("seedx 1;", 1, 0);
        Calls.fault("house ifa 1 2 3;", 0, -1);
        Calls.fault("rent=hourday;", 1, 5);
        Calls.fault("rent=12 34;", 1, 8);
        Calls.fault("house a 123;", 1, 11);
        Calls.fault("house a12 3 4;", 0, -1);
        Calls.fault("rent=hour1;", 1, 9);
    }

    private static void noToken() {
        Calls.sentence("A longer one, all else, is no TOKEN");
        Calls.fault("seed 1; abcdefghi", 1, 8);
        Calls.fault("seed 12345678", 1, 5);
        Calls.fault("houseaaaaaaaaaaaaa 1", 1, 0);
        Calls.fault("seed 1 ABC;", 1, 7);
        Calls.fault("rent=1+" + (char) 200 + ";", 1, 7);
        Calls.fault("rent=1+\0;", 1, 7);
    }

    private static void noTell() {
        Calls.sentence("text: {TELL}");
        Calls.fault("", 0, -1);
        Calls.due("no TELL: no HOUSES", Calls.told("").count(0), 0);
        Calls.due("one TELL", Calls.told(A).count(0), 1);
        Calls.fault("seed 1;".repeat(133), 0, -1);
    }

    private static void lawsWithoutIfs() {
        Calls.sentence("LAW: '=' {'if' E '<' E 'then' E 'else'} E");
        Calls.due("no if", Calls.told(A + "rent=7;").count(16), 7);
        Calls.due("one if", Calls.told(A + "rent=if 2<1 then 7 else 8;").count(16), 8);
        Calls.fault("rent=if 2<1 then 7 else;", 1, 23);
        Calls.fault("rent=;", 1, 5);
        Calls.fault("rent 1;", 1, 5);
        Calls.fault("rent==1;", 1, 5);
    }

    private static void sumsAndProducts() {
        Calls.sentence("E: PART {('+' | '-') PART}.   PART: UNIT {('*' | '/') UNIT}");
        Calls.due("one UNIT", Calls.told(A + "rent=(5);").count(16), 5);
        Calls.due("many PARTS", Calls.told(A + "rent=1" + "+1".repeat(90) + ";").count(16), 91);
        Calls.due("many UNITS", Calls.told(A + "rent=7" + "*1".repeat(150) + ";").count(16), 7);
        Calls.due("from the left on", Calls.told(A + "rent=50-20-7;").count(16), 23);
        Calls.due("PARTS bind first", Calls.told(A + "rent=50-20/7*2;").count(16), 46);
        Calls.fault("rent=+1;", 1, 5);
        Calls.fault("rent=-1;", 1, 5);
        Calls.fault("rent=1-;", 1, 7);
        Calls.fault("rent=1*;", 1, 7);
        Calls.fault("rent=1--1;", 1, 7);
        Calls.fault("rent=();", 1, 6);
    }

    // ---- what a text tells

    private static void eightHouses() {
        Calls.sentence("HOUSES, 8 at most");
        Calls.due("8", Calls.told(houses(8)).count(0), 8);
        Calls.due("the 8th", Calls.told(houses(7) + "house h 4 5 6;").house(7, 0), 4);
        Calls.fault(houses(9), 2, 8 * A.length());
    }

    private static void numberedHouses() {
        Calls.sentence("HOUSES .. numbered from 0 on as they stand");
        RightKeys keys = Calls.told("house z 9 8 7;house a 6 5 4;");
        Calls.due("the first is 0", keys.house(0, 0), 9);
        Calls.due("the second is 1", keys.house(1, 0), 6);
        Calls.due("its NAME's number", keys.house(1, 7), 1);
    }

    private static void goHours() {
        Calls.sentence("GO 0 .. 23");
        Calls.due("0", Calls.told("house a 0 5 5;").house(0, 0), 0);
        Calls.due("23", Calls.told("house a 23 5 5;").house(0, 0), 23);
        Calls.fault("house a 24 5 5;", 5, 8);
    }

    private static void comeHours() {
        Calls.sentence("COME 0 .. 23");
        Calls.due("0", Calls.told("house a 5 0 5;").house(0, 1), 0);
        Calls.due("23", Calls.told("house a 5 23 5;").house(0, 1), 23);
        Calls.fault("house a 5 24 5;", 5, 10);
    }

    private static void tempers() {
        Calls.sentence("TEMPER 0 .. 9");
        Calls.due("0", Calls.told("house a 5 5 0;").house(0, 2), 0);
        Calls.due("9", Calls.told("house a 5 5 9;").house(0, 2), 9);
        Calls.fault("house a 5 5 10;", 5, 12);
    }

    private static void sixSpares() {
        Calls.sentence("SPARES, 6 at most");
        Calls.due("6", Calls.told(A + "spare a a;".repeat(6)).count(1), 6);
        Calls.due("the 6th", Calls.told(houses(8) + "spare a a;".repeat(5) + "spare h g;").spare(5, 0), 7);
        Calls.fault(A + "spare a a;".repeat(7), 2, 14 + 60);
    }

    private static void numberedSpares() {
        Calls.sentence("SPARES .. numbered likewise (a key to the door of the first HOUSE, which is in the letterbox of the second one)");
        RightKeys keys = Calls.told(houses(3) + "spare c b;spare a c;");
        Calls.due("the first one's door", keys.spare(0, 0), 2);
        Calls.due("the first one's letterbox", keys.spare(0, 1), 1);
        Calls.due("the second one's door", keys.spare(1, 0), 0);
        Calls.due("the second one's letterbox", keys.spare(1, 1), 2);
    }

    private static void lawsNotTold() {
        Calls.sentence("LAWS: LETS (1), QUARREL (waited), RENT (inside), LATE (0), if not told");
        RightKeys keys = Calls.told("house a 0 2 0;house b 0 3 0;house c 0 4 0;seed 2;");
        Calls.due("RENT: three are inside", keys.house(0, 9), 3);
        Calls.due("LETS", keys.lets(0, 1), 1);
        keys.hours(4);
        Calls.due("QUARREL: waited 1, then 2; b is let in by a", keys.count(7), 1 + 2);
        Calls.due("RENT: b is inside", keys.house(0, 9), 1);
        Calls.due("LATE: nobody, though the LOT of a is 0 at 3", Calls.told("house a 1 3 0;seed 2;").then(0, 4, 0), 0);
    }

    private static void lastLaws() {
        Calls.sentence("LAWS: .. the last one");
        String text = "house a 0 2 0;house b 0 9 0;lets=1;lets=0;quarrel=5;quarrel=7;rent=8;rent=9;late=100;late=0;";
        RightKeys keys = Calls.told(text);
        Calls.due("LETS", keys.lets(0, 1), 0);
        Calls.due("RENT", keys.house(0, 9), 9);
        keys.hours(3);
        Calls.due("LATE", keys.house(0, 3), 2);
        Calls.due("QUARREL", keys.count(7), 7);
    }

    /** LOTs of the house 0 at 3 of the first day: of the SEED 0 23, of 2 0, of 9999 60. */
    private static void seeds() {
        Calls.sentence("SEED 0 .. 9999 (0)");
        Calls.due("none is 0: late by 24", Calls.told("house a 1 3 0;late=24;").then(0, 4, 0), 1);
        Calls.due("none is 0: not late by 23", Calls.told("house a 1 3 0;late=23;").then(0, 4, 0), 0);
        Calls.due("0: late by 24", Calls.told("house a 1 3 0;late=24;seed 0;").then(0, 4, 0), 1);
        Calls.due("0: not late by 23", Calls.told("house a 1 3 0;late=23;seed 0;").then(0, 4, 0), 0);
        Calls.due("9999: late by 61", Calls.told("house a 1 3 0;late=61;seed 9999;").then(0, 4, 0), 1);
        Calls.due("9999: not late by 60", Calls.told("house a 1 3 0;late=60;seed 9999;").then(0, 4, 0), 0);
        Calls.fault("seed 10000;", 1, 5);
    }

    private static void lastSeed() {
        Calls.sentence("SEED .. the last one");
        Calls.due("2, not 0", Calls.told("house a 1 3 0;late=1;seed 0;seed 2;").then(0, 4, 0), 1);
        Calls.due("0, not 2", Calls.told("house a 1 3 0;late=1;seed 2;seed 0;").then(0, 4, 0), 0);
    }

    // ---- FAULTS

    private static void placeIsAByte() {
        Calls.sentence("FAULTS .. its place (a byte");
        Calls.fault("?", 1, 0);
        Calls.fault(" \n?", 1, 2);
        Calls.fault(padded("?", 2000), 1, 1999);
    }

    private static void placeOfTheEnd() {
        Calls.sentence("FAULTS .. the text's end: its length)");
        Calls.fault("seed", 1, 4);
        Calls.fault("seed 1", 1, 6);
        Calls.fault("seed 1 \n\t", 1, 9);
        Calls.fault(padded("seed 1", 2000), 1, 2000);
        Calls.fault(padded("seed", 2000), 1, 2000);
        Calls.fault("seed 1;seed 1" + " ".repeat(1987), 1, 2000);
    }

    private static void firstByItsPlace() {
        Calls.sentence("FAULTS of a text, the first by its place");
        Calls.fault("seed ? seed ?", 1, 5);
        Calls.fault(houses(8) + "house ?", 2, 8 * A.length());
        Calls.fault("seed ?;" + houses(9), 1, 5);
        Calls.fault("rent=(((((((?", 2, 11);
        Calls.fault("rent=((((((?(", 1, 11);
    }

    /** A TELL that is broken off by the next one: its own place counts, whatever the next one is like. */
    private static void firstOfTwoTells() {
        Calls.sentence("FAULTS of a text, the first by its place");
        String[] broken = {"house ", "house a ", "house a 1 ", "house a 1 2 ", "house a 1 2 3 ", "spare ", "spare a ", "spare a a ", "both ",
            "both a ", "seed ", "seed 1 ", "lets ", "lets =", "lets =1 ", "lets =1+", "lets =(", "lets =(1 ", "lets =if ", "lets =if 1 ",
            "lets =if 1<", "lets =if 1<2 ", "lets =if 1<2 then ", "lets =if 1<2 then 3 ", "lets =if 1<2 then 3 else "};
        for (String tell : broken) {
            for (String next : new String[] {"house ?", "spare q q;", "both q;", "lets=1;?", "seed 1"}) {
                Calls.fault(tell + next, 1, tell.length());
                Calls.fault("house q 24 2 3;" + tell + next, 1, 15 + tell.length());
            }
        }
    }

    private static void leastOfOnePlace() {
        Calls.sentence("FAULTS .. of one place the least");
        String all = "seed 1;".repeat(132) + "rent=1;";
        Calls.fault(all + "seed", 2, all.length());
        Calls.fault(all + "then", 1, all.length());
        Calls.fault(all + "12345", 1, all.length());
        Calls.fault(all + ";", 1, all.length());
    }

    private static void syntax() {
        Calls.sentence("1 SYNTAX: a TOKEN, or what is none, with which no text goes on");
        Calls.fault("hour", 1, 0);
        Calls.fault("1", 1, 0);
        Calls.fault("house a 1 2 3,", 1, 13);
        Calls.fault("house a 1 2 3 ", 1, 14);
        Calls.fault(A + ";", 1, 14);
        Calls.fault(A + "spare a a a;", 1, 24);
        Calls.fault("rent=1<2;", 1, 6);
        Calls.fault("rent=1);", 1, 6);
        Calls.fault("rent=(1;", 1, 7);
        Calls.fault("rent=a;", 1, 5);
        Calls.fault("rent=(if 1<2 then 1 else 2);", 1, 6);
    }

    private static void tokens401() {
        Calls.sentence("2 ROOM: a 401st TOKEN");
        String all = "seed 1;".repeat(132) + "rent=1;";
        Calls.fault(all, 0, -1);
        Calls.fault(all + " \n", 0, -1);
        Calls.fault(all + "seed 1;", 2, all.length());
        Calls.fault(all + " \nrent", 2, all.length() + 2);
        String most = "rent=1" + "*1".repeat(198);
        Calls.fault(most + ";", 0, -1);
        Calls.fault(most + "*", 1, most.length() + 1);
        Calls.fault(most + "*1", 2, most.length() + 1);
        Calls.fault(most + "*(", 2, most.length() + 1);
        Calls.fault("seed 1;".repeat(133) + "seed ", 1, 936);
        Calls.fault("seed 1;".repeat(133) + "seed 1", 2, 936);
        Calls.due("a LAW of all that are left", Calls.told(A + "rent=7" + "*1".repeat(195) + ";").count(16), 7);
        Calls.fault(A + "rent=7" + "*1".repeat(196) + ";", 2, A.length() + 6 + 2 * 195 + 1);
        String ifs = "if 2<1 then 3 else if 2<1 then 3 else if 2<1 then 3 else if 2<1 then 3 else ";
        Calls.due("with 4 ifs", Calls.told(A + "rent=" + ifs + "8" + "*1".repeat(181) + ";").count(16), 8);
        Calls.fault(A + "rent=" + ifs + "8" + "*1".repeat(182) + ";", 2, A.length() + 5 + ifs.length() + 1 + 2 * 181 + 1);
    }

    private static void oneMoreOfASort() {
        Calls.sentence("2 ROOM: .. one more of a sort than told (at its first TOKEN)");
        Calls.fault(houses(8) + "house", 2, 8 * A.length());
        Calls.fault(houses(8) + "\n house i 1 2 3;", 2, 8 * A.length() + 2);
        Calls.fault(A + "spare a a;".repeat(6) + " spare", 2, 75);
        Calls.fault(houses(8) + "spare a a;".repeat(6), 0, -1);
        Calls.fault("house a 1 2 3;".repeat(8), 3, 20);
        Calls.fault("house a 1 2 3;".repeat(9), 2, 8 * A.length());
        Calls.fault("spare a a;".repeat(6), 4, 6);
        Calls.fault("spare a a;".repeat(7), 2, 60);
        Calls.fault(houses(8) + "both a;both b;both c;both d;both e;both f;both g;both h;", 0, -1);
    }

    private static void fifthIf() {
        Calls.sentence("2 ROOM: .. a 5th if of a LAW (at it)");
        String one = "if 2<1 then 3 else ";
        for (String law : "lets quarrel rent late".split(" ")) {
            Calls.fault(law + "=" + one.repeat(4) + "5;", 0, -1);
            Calls.fault(law + "=" + one.repeat(5) + "5;", 2, law.length() + 1 + 4 * one.length());
            Calls.fault(law + "=" + one.repeat(4) + "if", 2, law.length() + 1 + 4 * one.length());
        }
        Calls.fault("lets=" + one.repeat(4) + "5;lets=" + one.repeat(4) + "5;rent=" + one + "5;", 0, -1);
        Calls.due("the 4th counts", Calls.told(A + "rent=" + one.repeat(3) + "if 1<2 then 7 else 8;").count(16), 7);
    }

    private static void seventhOpen() {
        Calls.sentence("2 ROOM: .. a 7th ( within one another (at it)");
        Calls.due("6", Calls.told(A + "rent=((((((7))))));").count(16), 7);
        Calls.fault("rent=(((((((7)))))));", 2, 11);
        Calls.fault("rent=(((((((", 2, 11);
        Calls.due("7 that are not", Calls.told(A + "rent=(1)+(1)+(1)+(1)+(1)+(1)+(1);").count(16), 7);
        Calls.due("the 7th behind a )", Calls.told(A + "rent=((((((1))+(2)))));").count(16), 3);
        Calls.fault("rent=((((((1)+((2))))))));", 2, 15);
        String seven = "(((((((1)))))))";
        Calls.fault("rent=if " + seven + "<2 then 3 else 4;", 2, 8 + 6);
        Calls.fault("rent=if 1<" + seven + " then 3 else 4;", 2, 10 + 6);
        Calls.fault("rent=if 1<2 then " + seven + " else 4;", 2, 17 + 6);
        Calls.fault("rent=if 1<2 then 3 else " + seven + ";", 2, 24 + 6);
        Calls.due("6 in each E", Calls.told(A + "rent=if((((((1))))))<((((((2))))))then((((((3))))))else((((((4))))));").count(16), 3);
        Calls.due("each has its own",
            Calls.told(A + "rent=(1+(1+(1+(1+(1+(1+1))))))*((((((2))))));").count(16), 14);
    }

    private static void formAheadOfSense() {
        Calls.sentence("If there is none, likewise: 3 TWICE .. 4 NAME .. 5 WRONG");
        Calls.fault("house a 24 2 3;" + A + "both q;?", 1, 36);
        Calls.fault("both q;" + houses(9), 2, 7 + 8 * A.length());
        Calls.fault(A + A + "rent=(((((((1)))))));", 2, 39);
        Calls.fault("house a 1 2 10", 1, 14);
    }

    private static void twiceNames() {
        Calls.sentence("3 TWICE: a NAME told already");
        Calls.fault(A + "house b 1 2 3;house a 4 5 6;", 3, 34);
        Calls.fault(A + "house aa 1 2 3;", 0, -1);
        Calls.fault(A + " house  a 1 2 3;both a;", 3, 22);
        Calls.fault("house a 1 2 3;house abcdefgh 1 2 3;house abcdefgh 1 2 3;", 3, 41);
    }

    private static void twiceBoth() {
        Calls.sentence("3 TWICE: .. (at it) BOTH of a HOUSE twice");
        Calls.fault(A + "both a;", 0, -1);
        Calls.fault(A + "both  a;both  a;", 3, 28);
        Calls.fault(houses(2) + "both a;both b;", 0, -1);
        Calls.fault(houses(2) + "both a;both b;both b;", 3, 28 + 7 + 7 + 5);
    }

    private static void noSuchHouse() {
        Calls.sentence("4 NAME: (at it) no such HOUSE told ahead");
        Calls.fault(A + "spare a b;house b 1 2 3;", 4, 22);
        Calls.fault(A + "spare b a;house b 1 2 3;", 4, 20);
        Calls.fault(A + "both b;house b 1 2 3;", 4, 19);
        Calls.fault(A + "house b 1 2 3;spare a b;spare b a;both b;", 0, -1);
        Calls.fault("spare a b;", 4, 6);
        Calls.sentence("(a NAME told more than once is that of the first one)");
        Calls.fault(A + "house a 4 5 6;both a;both a;", 3, 20);
    }

    private static void wrongAtTheInt() {
        Calls.sentence("5 WRONG (at the INT): a number not as told above");
        Calls.fault("house a  24 24 10;", 5, 9);
        Calls.fault("house a 23  24 10;", 5, 12);
        Calls.fault("house a 23 23  10;", 5, 15);
        Calls.fault("house a 9999 0 0;", 5, 8);
        Calls.fault("house a 0024 0 0;", 5, 8);
        Calls.fault("house a 0 0 9999;", 5, 12);
        Calls.fault("house a 23 23 9;rent=9999;seed 9999;", 0, -1);
    }

    private static void senseByPlace() {
        Calls.sentence("If there is none, likewise: the first by its place");
        Calls.fault("both q;house a 24 2 3;" + A, 4, 5);
        Calls.fault("house a 24 2 3;both q;" + A, 5, 8);
        Calls.fault(A + "house a 24 2 3;both q;", 3, 20);
    }

    private static void faultsChangeNothing() {
        Calls.sentence("A text with a FAULT changes nothing but the tape");
        String[] texts = {"house x 4 5 6;?", houses(9), A + A, "house x 4 5 6;both q;", "house x 4 5 24;"};
        for (int i = 0; i < texts.length; i++) {
            String text = texts[i];
            int number = i + 1;
            RightKeys keys = Calls.told("house a 1 3 3;house b 1 2 4;spare a b;seed 3;rent=5;both a;lets=0;quarrel=3;");
            keys.keep(0, true);
            keys.pass(0, 1);
            keys.hours(4);
            keys.hold(1);
            keys.tell(1, true);
            State.staysButTape("a text with the FAULT " + number, keys, () -> {
                Calls.feed(keys, text);
                Calls.due("read", keys.read(), number);
            });
            Calls.due("LETS stays", keys.lets(0, 1), 0);
            Calls.due("what is held stays", keys.restore(1), true);
        }
    }

    /** At 27 b, in the HOUSE 0, stands OUTSIDE; a, in the HOUSE 1, is LATE; c, let in by a SPARE, is IN; there were QUARRELS. */
    private static RightKeys longAgo() {
        RightKeys keys = Calls.told("house a 1 2 3;house b 1 2 4;house c 9 10 5;spare c c;spare a b;seed 3;rent=5;lets=0;both a;"
            + "late=if temper<4 then 100 else 0;");
        keys.pass(1, 2);
        keys.change(0, 1);
        keys.hours(27);
        keys.keep(1, true);
        keys.hold(0);
        keys.hold(2);
        keys.tell(1, true);
        Calls.sentence("else it is in place of the one ahead");
        for (int what : new int[] {2, 4, 5, 6, 7, 8, 10, 11, 12, 13, 14, 15}) {
            Calls.due("count(" + what + ") ahead is not 0", keys.count(what) != 0, true);
        }
        Calls.due("they had changed", keys.house(0, 7), 1);
        Calls.due("b had waited", keys.house(0, 4), 1);
        Calls.due("a was LATE", keys.house(1, 8), 1);
        return keys;
    }

    private static void newTextInPlace() {
        RightKeys keys = longAgo();
        Calls.feed(keys, "house c 5 6 7;house d 8 9 1;house e 8 9 2;spare d d;spare d d;");
        Calls.due("read", keys.read(), 0);
        Calls.due("GO", keys.house(0, 0), 5);
        Calls.due("RENT is not told", keys.house(0, 9), 3);
        Calls.due("LETS is not told", keys.lets(0, 1), 1);
        Calls.due("BOTH is not told", keys.house(0, 6), 0);
        Calls.due("SPARES have no goal", keys.count(15), 0);
        Calls.due("nobody is KEPT IN", keys.count(8), 0);
        Calls.due("no QUARRELS", keys.count(7), 0);
        Calls.due("nobody was let IN", keys.count(13), 0);
        Calls.due("nor by a SPARE", keys.count(14), 0);
        Calls.due("by whom", keys.by(2), -2);
        Calls.sentence("hour 0, all IN");
        Calls.due("hour", keys.count(2), 0);
        Calls.due("IN", keys.count(4), 7);
        Calls.due("OUT", keys.count(5), 0);
        Calls.due("OUTSIDE", keys.count(6), 0);
        for (int house = 0; house < 3; house++) {
            Calls.due("waited", keys.house(house, 4), 0);
            Calls.due("LATE", keys.house(house, 8), 0);
        }
        Calls.sentence("each in their own HOUSE");
        for (int house = 0; house < 3; house++) {
            Calls.due("whose NAME", keys.house(house, 7), house);
        }
        Calls.sentence("nothing can be undone");
        Calls.due("things", keys.count(10), 0);
        Calls.due("undo", keys.undo(), false);
        Calls.sentence("nothing is TOLD");
        Calls.due("TOLD ones", keys.count(11), 0);
        Calls.due("overslept by the first", keys.overslept(1, 0), -1);
        Calls.sentence("SLOTS hold nothing");
        Calls.due("SLOTS", keys.count(12), 0);
        Calls.due("restore", keys.restore(0), false);
    }

    private static void anEmptyTextInPlace() {
        RightKeys keys = longAgo();
        Calls.due("read of an empty tape", keys.read(), 0);
        for (int what = 0; what <= 16; what++) {
            Calls.due("count(" + what + ")", keys.count(what), 0);
        }
        Calls.due("no HOUSE", keys.house(0, 0), -1);
        Calls.due("no SPARE", keys.spare(0, 0), -1);
    }

    /** What one text tells is not told by the next ones. */
    private static void textsBehindTexts() {
        Calls.sentence("else it is in place of the one ahead");
        RightKeys keys = new RightKeys();
        for (int i = 0; i < 6; i++) {
            Calls.feed(keys, "house a 1 3 0;house b 9 9 0;both a;seed 2;rent=7;quarrel=8;lets=0;late=1;spare a b;");
            keys.read();
            Calls.due("LATE by the SEED 2", keys.then(0, 4, 0), 1);
            for (int j = 0; j <= i % 3; j++) {
                Calls.feed(keys, j % 2 == 0 ? "house a 1 3 0;house b 2 9 0;" : "house a 24 3 0;both a;seed 2;rent=7;lets=0;late=1;");
                Calls.due("read", keys.read(), j % 2 == 0 ? 0 : 5);
                Calls.due("BOTH", keys.house(0, 6), 0);
                Calls.due("RENT", keys.house(0, 9), 2);
                Calls.due("LETS", keys.lets(0, 1), 1);
                Calls.due("LATE", keys.then(0, 4, 0), 2);
                Calls.due("QUARREL", keys.then(0, 4, 2), 1);
                Calls.due("SPARES", keys.count(1), 0);
            }
            Calls.feed(keys, "house a 1 3 0;house b 2 9 0;late=1;");
            keys.read();
            Calls.due("not LATE by the SEED 0", keys.then(0, 4, 0), 2);
        }
    }

    private static void longTextsBehindLongTexts() {
        Calls.sentence("else it is in place of the one ahead");
        RightKeys keys = new RightKeys();
        for (int i = 0; i < 6; i++) {
            Calls.feed(keys, A + "rent=" + (i + 5) + "*1".repeat(195) + ";");
            Calls.due("read of 400 TOKENS", keys.read(), 0);
            Calls.due("RENT", keys.house(0, 9), i + 5);
        }
    }

    // ---- promises 1 to 5

    private static void newObject() {
        Calls.sentence("1: No HOUSES");
        RightKeys keys = new RightKeys();
        for (int what = 0; what <= 16; what++) {
            Calls.due("count(" + what + ")", keys.count(what), 0);
        }
        Calls.due("house", keys.house(0, 0), -1);
        Calls.due("spare", keys.spare(0, 0), -1);
    }

    private static void feedOrder() {
        Calls.sentence("2: Twenty bytes, the highest of a first, come behind the tape: how many it has");
        RightKeys keys = new RightKeys();
        Calls.due("the first twenty", keys.feed(0x72656e74, 0x3d312b32, 0x2b332b34, 0x2b352b36, 0x2b372b38), 20);
        Calls.due("twenty more", keys.feed(0x2b390000, 0, 0, 0, 0xff), 40);
        keys.back(18);
        Calls.due("read", keys.read(), 1);
        Calls.due("rent=1+2 .. +9, cut off behind all of it", keys.place(), 22);
        keys.feed(0x3f202020, BLANKS, BLANKS, BLANKS, BLANKS);
        keys.read();
        Calls.due("the highest byte of a", keys.place(), 0);
        keys.feed(BLANKS, BLANKS, BLANKS, BLANKS, 0x202020ff);
        keys.read();
        Calls.due("the lowest byte of e", keys.place(), 19);
        keys.feed(BLANKS, BLANKS, BLANKS, 0x80000000, BLANKS);
        keys.read();
        Calls.due("the highest byte of d", keys.place(), 12);
    }

    private static RightKeys fedTo(int bytes) {
        RightKeys keys = new RightKeys();
        for (int i = 0; i < 100; i++) {
            keys.feed(BLANKS, BLANKS, BLANKS, BLANKS, BLANKS);
        }
        keys.back(2000 - bytes);
        return keys;
    }

    private static void feedFull() {
        Calls.sentence("2: NONE, and nothing comes, if it would have more than 2,000");
        Calls.due("from 1,980", fedTo(1980).feed(BLANKS, BLANKS, BLANKS, BLANKS, BLANKS), 2000);
        for (int bytes : new int[] {1981, 1999, 2000}) {
            RightKeys keys = fedTo(bytes);
            Calls.due("from " + bytes, keys.feed(-1, -1, -1, -1, -1), -1);
            Calls.due("bytes", keys.count(9), bytes);
            Calls.due("nothing came", keys.read(), 0);
        }
    }

    private static void back() {
        Calls.sentence("3: The last n bytes of the tape go: how many it has");
        Calls.due("0 of 2,000", fedTo(2000).back(0), 2000);
        Calls.due("1 of 2,000", fedTo(2000).back(1), 1999);
        Calls.due("2,000 of 2,000", fedTo(2000).back(2000), 0);
        Calls.due("0 of an empty tape", new RightKeys().back(0), 0);
        RightKeys keys = new RightKeys();
        Calls.feed(keys, A + A);
        keys.back(A.length());
        Calls.due("the first stay", keys.read(), 0);
        Calls.due("its HOUSE", keys.count(0), 1);
        Calls.feed(keys, "house");
        keys.back(1);
        keys.read();
        Calls.due("a letter that went is not read: hous", keys.place(), 0);
        Calls.feed(keys, "seed 12345");
        keys.back(1);
        keys.read();
        Calls.due("a digit that went is not read: 1234", keys.place(), 9);
    }

    private static void backRefused() {
        Calls.sentence("3: NONE, and nothing goes, if it has not so many, or n is below 0");
        Calls.due("1 of an empty tape", new RightKeys().back(1), -1);
        for (int n : new int[] {21, -1, Integer.MAX_VALUE, Integer.MIN_VALUE}) {
            RightKeys keys = fedTo(20);
            Calls.due("back(" + n + ") of 20", keys.back(n), -1);
            Calls.due("bytes", keys.count(9), 20);
        }
        Calls.due("2,001 of 2,000", fedTo(2000).back(2001), -1);
    }

    private static void readEmpties() {
        Calls.sentence("4: The tape, which is empty then, is read");
        RightKeys keys = new RightKeys();
        Calls.feed(keys, A);
        keys.read();
        Calls.due("bytes", keys.count(9), 0);
        Calls.feed(keys, "?");
        keys.read();
        Calls.due("bytes behind a FAULT", keys.count(9), 0);
        Calls.due("an empty tape has no FAULT", keys.read(), 0);
        RightKeys full = fedTo(2000);
        full.read();
        Calls.due("a full tape is empty, too", full.feed(0, 0, 0, 0, 0), 20);
    }

    /** Each text is read by itself, whatever the ones ahead were. */
    private static void readAnew() {
        Calls.sentence("4: The tape .. is read");
        String[] ahead = {"?", "seed?", "seed 1?", "seed 1;?", "seed 1;seed?", "seed 1;seed 1?", "seed", "seed 1", "seed 1;seed"};
        for (String text : ahead) {
            RightKeys keys = new RightKeys();
            for (String next : new String[] {A, "seed 1", "", "both", "house a 1 2"}) {
                Calls.feed(keys, text);
                Calls.due("read of " + text, keys.read(), 1);
                Calls.feed(keys, next);
                boolean whole = next.isEmpty() || next.endsWith(";");
                Calls.due("read of " + next + " behind " + text, keys.read(), whole ? 0 : 1);
                Calls.due("place", keys.place(), whole ? -1 : next.length());
            }
        }
    }

    private static void readNumbers() {
        Calls.sentence("4: 0, or the number of its FAULT");
        String[] texts = {A, "?", houses(9), A + A, "both q;", "house a 1 2 10;"};
        for (int number = 0; number < texts.length; number++) {
            RightKeys keys = new RightKeys();
            Calls.feed(keys, texts[number]);
            Calls.due("read of " + texts[number], keys.read(), number);
            Calls.feed(keys, A);
            Calls.due("read of a text without, behind it", keys.read(), 0);
            Calls.feed(keys, texts[number]);
            Calls.due("read of it again", keys.read(), number);
        }
    }

    private static void place() {
        Calls.sentence("5: The byte of the latest read()'s FAULT; NONE without");
        RightKeys keys = new RightKeys();
        Calls.due("nothing read", keys.place(), -1);
        Calls.feed(keys, "  ?");
        Calls.due("not read yet", keys.place(), -1);
        keys.read();
        Calls.due("the FAULT's", keys.place(), 2);
        Calls.feed(keys, "?");
        Calls.due("still the latest read()'s", keys.place(), 2);
        keys.read();
        Calls.due("the new one's: 0", keys.place(), 0);
        keys.read();
        Calls.due("a text without", keys.place(), -1);
        Calls.feed(keys, "house a 1 2 10;");
        keys.read();
        Calls.due("a FAULT of sense", keys.place(), 12);
        Calls.feed(keys, A);
        keys.read();
        Calls.due("without again", keys.place(), -1);
    }
}
