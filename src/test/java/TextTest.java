/** Promises 2 to 5: the tape, the text, its FAULTS and their places. */
public final class TextTest {
    private static final String A = "house a 1 2 3;";

    public static void main(String[] args) {
        tape();
        tokens();
        syntax();
        everyPrefix();
        manyTokens();
        tooManyOfASort();
        tooManyIfsAndOpen();
        twice();
        names();
        wrongNumbers();
        firstByPlace();
        faultChangesNothing();
        newTextBeginsAnew();
        nothingIsLeftOfOldTexts();
        Calls.end();
    }

    private static void tape() {
        RightKeys keys = new RightKeys();
        Calls.due("back of nothing", keys.back(1), -1);
        Calls.due("back(0) of nothing", keys.back(0), 0);
        for (int i = 1; i <= 100; i++) {
            Calls.due("feed " + i, keys.feed(0x20202020, 0x20202020, 0x20202020, 0x20202020, 0x20202020), 20 * i);
        }
        Calls.due("feed into a full tape", keys.feed(0, 0, 0, 0, 0), -1);
        Calls.due("bytes", keys.count(9), 2000);
        Calls.due("back(-1)", keys.back(-1), -1);
        Calls.due("back(MIN)", keys.back(Integer.MIN_VALUE), -1);
        Calls.due("back(2001)", keys.back(2001), -1);
        Calls.due("back(19)", keys.back(19), 1981);
        Calls.due("feed beyond 2,000", keys.feed(0, 0, 0, 0, 0), -1);
        Calls.due("back(1)", keys.back(1), 1980);
        Calls.due("feed up to 2,000", keys.feed(0x41424344, 0, 0, 0, 0), 2000);
        Calls.due("read", keys.read(), 1);
        Calls.due("place", keys.place(), 1980);
        Calls.due("bytes behind read", keys.count(9), 0);
        Calls.due("back behind read", keys.back(1), -1);
        Calls.due("read nothing", keys.read(), 0);
        Calls.due("place without", keys.place(), -1);
        Calls.due("place of a new one", new RightKeys().place(), -1);
        keys.feed(0x686f7573, 0x65206120, 0x31203220, 0x333b2020, 0x20202020);
        Calls.due("the highest byte first", keys.read(), 0);
        Calls.due("a house", keys.count(0), 1);
    }

    private static void tokens() {
        Calls.due("blanks", Calls.told("\t\r\n house\ta\n1\r2 3\n;\t").house(0, 2), 3);
        Calls.due("no blanks", Calls.told("house a1 2 3;both a;seed 5;lets=1;").count(0), 1);
        Calls.due("no blank behind an INT", Calls.told("house a 1 2 3;lets=if 1<2then 3else 4;").count(0), 1);
        Calls.due("zeros ahead", Calls.told("house a 0001 02 003;").house(0, 1), 2);
        Calls.due("eight letters", Calls.told("house abcdefgh 1 2 3;both abcdefgh;").house(0, 6), 1);
        Calls.due("words with more letters", Calls.told("house houses 1 2 3;house hous 1 2 3;house hourz 1 2 3;").count(0), 3);
        Calls.due("words with another letter", Calls.told("house mouse 1 2 3;house kate 1 2 3;house heys 1 2 3;").count(0), 3);
        Calls.fault("house abcdefghi 1 2 3;", 1, 6);
        Calls.fault("house a 00001 2 3;", 1, 8);
        Calls.fault("housea 1 2 3;", 1, 0);
        Calls.fault("House a 1 2 3;", 1, 0);
        Calls.fault("house aB 1 2 3;", 1, 7);
        Calls.fault("house a 1 2 3;\0", 1, 14);
        Calls.fault("house a 1 2 3;\13", 1, 14);
        Calls.fault("house a 1 2 3;" + (char) 255, 1, 14);
        Calls.fault("house a 1 2 3.", 1, 13);
        for (String word : ("house spare both lets quarrel rent late seed if then else hour day waited temper other "
            + "which inside outside keys").split(" ")) {
            Calls.fault("house " + word + " 1 2 3;", 1, 6);
        }
        for (String word : "hour day waited temper other which inside outside keys".split(" ")) {
            Calls.told("lets = " + word + ";");
        }
    }

    private static void syntax() {
        Calls.fault(";", 1, 0);
        Calls.fault("a", 1, 0);
        Calls.fault("house 1", 1, 6);
        Calls.fault("house a 1 2;", 1, 11);
        Calls.fault("house a 1 2 3 4;", 1, 14);
        Calls.fault("house a -1 2 3;", 1, 8);
        Calls.fault(A + "spare a;", 1, 21);
        Calls.fault(A + "spare a a a;", 1, 24);
        Calls.fault(A + "both;", 1, 18);
        Calls.fault(A + "both a a;", 1, 21);
        Calls.fault("seed a;", 1, 5);
        Calls.fault("seed 12345;", 1, 5);
        Calls.fault("lets 1;", 1, 5);
        Calls.fault("lets = ;", 1, 7);
        Calls.fault("lets = 1", 1, 8);
        Calls.fault("lets = 1 ", 1, 9);
        Calls.fault("lets = 1 2;", 1, 9);
        Calls.fault("lets = 1 +;", 1, 10);
        Calls.fault("lets = -1;", 1, 7);
        Calls.fault("lets = a;", 1, 7);
        Calls.fault("lets = 1 < 2;", 1, 9);
        Calls.fault("lets = (1;", 1, 9);
        Calls.fault("lets = 1);", 1, 8);
        Calls.fault("lets = ();", 1, 8);
        Calls.fault("lets = if 1 then 2 else 3;", 1, 12);
        Calls.fault("lets = if 1 < 2 < 3 then 2 else 3;", 1, 16);
        Calls.fault("lets = if 1 < 2 then 3;", 1, 22);
        Calls.fault("lets = if 1 < 2 else 3;", 1, 16);
        Calls.fault("lets = if 1 < 2 then if 1 < 2 then 1 else 1 else 3;", 1, 21);
        Calls.fault("lets = (if 1 < 2 then 3 else 4);", 1, 8);
        Calls.fault("lets = 1 + if 1 < 2 then 3 else 4;", 1, 11);
        Calls.fault("quarrel = 1; rent = hour late = 2;", 1, 25);
    }

    /** A text cut off inside a TELL ends with SYNTAX at its length; behind a TELL it is one. */
    private static void everyPrefix() {
        String text = "house a 1 2 3 ; spare a a ; both a ; lets = if ( 1 + hour ) * 2 < 3 then 4 else 5 / day ; seed 7 ; ";
        for (int i = 0; i <= text.length(); i++) {
            String cut = text.substring(0, i);
            if (i == text.length() || text.charAt(i) == ' ' || i > 0 && text.charAt(i - 1) == ' ') {
                boolean whole = cut.isBlank() || cut.trim().endsWith(";");
                Calls.fault(cut, whole ? 0 : 1, whole ? -1 : i);
            }
        }
    }

    private static void manyTokens() {
        String seeds = "seed 1;".repeat(133);
        Calls.fault(seeds, 0, -1);
        Calls.fault(seeds + "seed", 1, 935);
        Calls.fault(seeds + "seed 1;", 2, 936);
        Calls.fault(seeds + "seed;", 1, 935);
        Calls.fault(seeds + "seed a;", 1, 936);
        Calls.fault(seeds + "seed ABC", 1, 936);
        Calls.fault(seeds + "seed 12345", 1, 936);
        Calls.fault(seeds + "seed      ", 1, 941);
        String law = "lets=1" + "+1".repeat(198);
        Calls.fault(law + ";", 0, -1);
        Calls.fault(law + "+1;", 2, law.length() + 1);
        Calls.fault(law + " ;", 0, -1);
        String four = "lets=1;".repeat(2) + "seed 1;".repeat(130) + "rent=";
        Calls.fault(four + "1;", 2, four.length());
        Calls.fault(four + ";", 1, four.length());
        String whole = "lets=1;" + "seed 1;".repeat(132);
        Calls.fault(whole, 0, -1);
        Calls.fault(whole + "   ", 0, -1);
        Calls.fault(whole + "house", 2, whole.length());
        Calls.fault(whole + "hose", 1, whole.length());
        Calls.fault(whole + "?", 1, whole.length());
    }

    private static void tooManyOfASort() {
        StringBuilder eight = new StringBuilder();
        for (char c = 'a'; c < 'i'; c++) {
            eight.append("house ").append(c).append(" 1 2 3;");
        }
        Calls.fault(eight.toString(), 0, -1);
        Calls.fault(eight + "house i 1 2 3;", 2, 112);
        Calls.fault(eight + "house 1", 2, 112);
        Calls.fault(eight + " house", 2, 113);
        String six = A + "spare a a;".repeat(6);
        Calls.fault(six, 0, -1);
        Calls.fault(six + "spare a a;", 2, 74);
        Calls.fault("house a 99 2 3;" + eight, 2, 113);
        Calls.fault("spare b b;".repeat(7), 2, 60);
    }

    private static void tooManyIfsAndOpen() {
        String one = "if 1<2 then 3 else ";
        Calls.fault("lets=" + one.repeat(4) + "5;", 0, -1);
        Calls.fault("lets=" + one.repeat(5) + "5;", 2, 81);
        Calls.fault("lets=" + one.repeat(4) + "5;rent=" + one.repeat(4) + "5;", 0, -1);
        Calls.fault("lets=((((((1))))));", 0, -1);
        Calls.fault("lets=(((((((1)))))));", 2, 11);
        Calls.fault("lets=((((((1))))))+((((((1))))));", 0, -1);
        Calls.fault("lets=((((((1)+(1))))))*(1);", 0, -1);
        Calls.fault("lets=((((((1+(2)))))));", 2, 13);
        Calls.fault("lets=if ((((((1))))))<((((((2)))))) then ((((((1)))))) else ((((((1))))));", 0, -1);
    }

    private static void twice() {
        Calls.fault(A + "house a 1 2 3;", 3, 20);
        Calls.fault(A + "both a;both a;", 3, 26);
        Calls.fault(A + "house b 1 2 3;both a;both b;both a;", 3, 47);
        Calls.fault(A + "spare a a;spare a a;lets=1;lets=2;seed 1;seed 2;", 0, -1);
    }

    private static void names() {
        Calls.fault("spare a a;" + A, 4, 6);
        Calls.fault(A + "spare b a;", 4, 20);
        Calls.fault(A + "spare a b;", 4, 22);
        Calls.fault("both a;" + A, 4, 5);
        Calls.fault(A + "both aa;", 4, 19);
        Calls.fault("house aa 1 2 3;both a;", 4, 20);
    }

    private static void wrongNumbers() {
        Calls.fault("house a 24 2 3;", 5, 8);
        Calls.fault("house a 1 24 3;", 5, 10);
        Calls.fault("house a 1 2 10;", 5, 12);
        Calls.fault("house a 23 23 9;", 0, -1);
        Calls.fault("house a 0 0 0;seed 9999;lets=9999;", 0, -1);
        Calls.fault("house a 9999 9999 9999;", 5, 8);
    }

    private static void firstByPlace() {
        Calls.fault("house a 24 2 3;house a 1 2 3;", 5, 8);
        Calls.fault("house a 24 2 3;house a 1 2 3", 1, 28);
        Calls.fault(A + "house a 24 2 3;", 3, 20);
        Calls.fault(A + "both b;house a 1 2 3;", 4, 19);
        Calls.fault("both b;lets=(((((((1)))))));", 2, 18);
        Calls.fault("lets=(((((((1))))))) ?", 2, 11);
        Calls.fault("lets=1 ?;lets=(((((((1)))))));", 1, 7);
    }

    private static void faultChangesNothing() {
        RightKeys keys = Calls.told("house a 1 3 3;house b 1 2 4;spare a b;seed 3;rent=5;");
        keys.keep(0, true);
        keys.hours(4);
        keys.hold(1);
        keys.tell(1, true);
        for (String text : new String[] {"house x 1 2 3", "house x 24 2 3;", "both q;", "house x 1 2 3;house x 1 2 3;", "lets=(((((((1)))))));"}) {
            Calls.feed(keys, text);
            Calls.due("a fault", keys.read() > 0, true);
            Calls.due("tape", keys.count(9), 0);
            Calls.due("houses", keys.count(0), 2);
            Calls.due("spares", keys.count(1), 1);
            Calls.due("hour", keys.count(2), 4);
            Calls.due("kept", keys.count(8), 1);
            Calls.due("undone", keys.count(10), 2);
            Calls.due("told", keys.count(11), 1);
            Calls.due("held", keys.count(12), 1);
            Calls.due("rents", keys.count(16), 10);
            Calls.due("temper", keys.house(1, 2), 4);
        }
        Calls.due("undo", keys.undo(), true);
        Calls.due("restore", keys.restore(1), true);
        Calls.due("hour", keys.count(2), 4);
    }

    private static void newTextBeginsAnew() {
        RightKeys keys = Calls.told("house a 1 3 3;house b 1 2 4;spare a b;seed 3;rent=5;quarrel=9;late=100;lets=0;both a;");
        keys.keep(0, true);
        keys.pass(0, 1);
        keys.change(0, 1);
        keys.hours(30);
        keys.hold(1);
        keys.tell(1, true);
        Calls.due("quarrels ahead", keys.count(7) > 0, true);
        Calls.feed(keys, "house c 5 6 7;house d 8 9 1;spare d d;spare c d;");
        Calls.due("read", keys.read(), 0);
        int[] want = {2, 2, 0, 0, 3, 0, 0, 0, 0, 0, 0, 0, 0, 0, 0, 0, 4};
        for (int what = 0; what < want.length; what++) {
            Calls.due("count(" + what + ") of a new text", keys.count(what), want[what]);
        }
        int[] house = {8, 9, 1, 0, 0, 0, 0, 1, 0, 2};
        for (int what = 0; what < house.length; what++) {
            Calls.due("house(1, " + what + ") of a new text", keys.house(1, what), house[what]);
        }
        Calls.due("by", keys.by(0), -2);
        Calls.due("goal", keys.spare(0, 2), -2);
        Calls.due("undo", keys.undo(), false);
        Calls.due("restore", keys.restore(1), false);
        Calls.due("lets", keys.lets(0, 1), 1);
        Calls.due("both", keys.house(0, 6), 0);
        keys.hours(10);
        Calls.due("not late", keys.count(5), 0);
        Calls.due("an empty text", keys.read(), 0);
        Calls.due("no houses", keys.count(0), 0);
        Calls.due("no spares", keys.count(1), 0);
        Calls.due("hour", keys.count(2), 0);
    }

    private static void nothingIsLeftOfOldTexts() {
        RightKeys keys = Calls.told("house a 1 2 3;");
        String[] told = {"house a 1 3 4;house b 1 2 4;spare a a;spare a b;both a;both b;seed 3;rent=5;quarrel=9;late=100;lets=0;",
            "house a 99 2 3;both a;seed 5;rent=7;lets=0;late=100;", "both a", "lets=((((((("};
        for (int i = 0; i < 3 * told.length; i++) {
            for (int j = 0; j <= i % 3; j++) {
                Calls.feed(keys, told[(i + j) % told.length]);
                keys.read();
                keys.hours(26);
                keys.hours(1);
            }
            Calls.feed(keys, "house c 5 6 7;house d 8 9 1;");
            Calls.due("read", keys.read(), 0);
            Calls.due("place", keys.place(), -1);
            Calls.due("spares", keys.count(1), 0);
            Calls.due("rents", keys.count(16), 4);
            Calls.due("by a spare", keys.count(14), 0);
            for (int house = 0; house < 2; house++) {
                Calls.due("both", keys.house(house, 6), 0);
                Calls.due("late", keys.house(house, 8), 0);
                Calls.due("waited", keys.house(house, 4), 0);
                Calls.due("whose name", keys.house(house, 7), house);
                Calls.due("lets", keys.lets(house, 1 - house), 1);
            }
            Calls.due("nobody is late", keys.then(0, 7, 0), 0);
            Calls.feed(keys, "house c 5 6 7;house d 4 9 1;late=21;lets=0;");
            keys.read();
            Calls.due("seed 0", keys.year(7, 1), Model.lot(100, 0, 32 * 6) < 21 ? 1 : 0);
        }
    }
}
