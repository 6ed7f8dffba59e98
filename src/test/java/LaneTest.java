/** Promises 1 to 7: a new object, the lane, the law. */
final class LaneTest {
    private static final int MIN = Integer.MIN_VALUE, MAX = Integer.MAX_VALUE;

    public static void main(String[] args) {
        newObject();
        counts();
        sets();
        setsOfPlaces();
        feeds();
        texts();
        textsAreFull();
        faults();
        firstFaults();
        everyByte();
        everyWord();
        longTexts();
        opens();
        sixthOpen();
        textsAnew();
        forces();
        asksRefused();
        asksOfTheFirstLaw();
        asksBounded();
        values();
        wraps();
        names();
        Due.end();
    }

    private static void newObject() {
        ThreePoints x = new ThreePoints();
        Due.is("1 VEHICLES", x.count(0), 0);
        Due.is("1 WIDTH", x.count(1), 40);
        Due.is("1 OPENING", x.count(2), 0);
        Due.is("1 TEXTS", x.count(3), 1);
        Due.is("1 THE LAW", x.count(4), 0);
        Due.is("1 THE TAPE", x.count(5), 0);
        Due.is("1 no VEHICLE", x.told(0, 0), -5);
        Due.is("1 none best", x.best(0), -1);
        Due.is("1 no IMAGE", x.back(), -3);
        for (int s = 0; s < 4; s++) Due.is("1 no SHEET", x.cell(s, 0, 0), -11);
    }

    private static void counts() {
        ThreePoints x = new ThreePoints();
        x.vehicle(0, 10);
        x.vehicle(0, 10);
        x.set(0, 50);
        x.set(1, 7);
        Due.text(x, "clears 0 ; wears 0 ; sure 0 ;");
        Due.text(x, "clears 0 ; wears 0 ; sure 0 ;");
        x.force(2);
        Due.feed(x, "abc");
        Due.is("2 VEHICLES", x.count(0), 2);
        Due.is("2 WIDTH", x.count(1), 50);
        Due.is("2 OPENING", x.count(2), 7);
        Due.is("2 TEXTS", x.count(3), 3);
        Due.is("2 THE LAW", x.count(4), 2);
        Due.is("2 THE TAPE", x.count(5), 3);
        for (int what : new int[] {-1, 6, MIN, MAX}) Due.is("2 what " + what, x.count(what), -2);
    }

    private static void sets() {
        ThreePoints x = new ThreePoints();
        Due.is("3 WIDTH", x.set(0, 8), 40);
        Due.is("3 WIDTH", x.set(0, 60), 8);
        Due.is("3 it became so", x.count(1), 60);
        for (int v : new int[] {7, 61, 0, -8, MIN, MAX}) Due.is("3 WIDTH " + v, x.set(0, v), -7);
        Due.is("3 OPENING", x.set(1, 20), 0);
        Due.is("3 OPENING", x.set(1, 0), 20);
        for (int v : new int[] {-1, 21, 40, MIN, MAX}) Due.is("3 OPENING " + v, x.set(1, v), -7);
        for (int what : new int[] {-1, 2, MIN, MAX}) {
            Due.is("3 what " + what, x.set(what, 8), -5);
            Due.is("3 what ahead of v " + what, x.set(what, -1), -5);
        }
        Due.is("3 refused, nothing changed", x.count(1), 60);
        Due.is("3 refused, nothing changed", x.count(2), 0);
    }

    private static void setsOfPlaces() {
        ThreePoints x = new ThreePoints();
        x.vehicle(0, 10);
        x.vehicle(0, 30);
        Due.is("3 WIDTH at which it just FITS", x.set(0, 31), 40);
        Due.is("3 WIDTH at which it doesn't", x.set(0, 30), -3);
        Due.is("3 v ahead of STATE", x.set(0, 7), -7);
        Due.is("3 refused, nothing changed", x.count(1), 31);

        ThreePoints y = new ThreePoints();
        y.vehicle(0, 23);
        for (int i = 0; i < 4; i++) y.drive(0, 0, 1);
        Due.is("HEADING 4", y.told(0, 3), 4);
        Due.is("at 30", y.told(0, 2), 30);
        Due.is("3 OPENING", y.set(1, 20), 0);
        Due.is("3 its PLACE would be outside", y.set(0, 29), -3);
        Due.is("3 its FRONT is in the OPENING", y.set(0, 30), 40);
        Due.is("3 its FRONT needs 6 of it", y.set(1, 5), -3);
        Due.is("3 its FRONT needs 6 of it", y.set(1, 6), 20);

        ThreePoints z = new ThreePoints();
        z.vehicle(0, 5);
        Due.law(z, "clears 9 ; wears 0 ; sure 0 ;");
        Due.is("3 it doesn't FIT as it is", z.set(0, 40), -3);
        Due.is("3 it doesn't FIT as it is", z.set(1, 0), -3);

        // whichever of four it is
        for (int v = 0; v < 4; v++) {
            ThreePoints w = new ThreePoints();
            for (int i = 0; i < 4; i++) w.vehicle(0, i == v ? 30 : 20);
            Due.is("3 number " + v + " would not FIT", w.set(0, 30), -3);
            Due.is("3 all would", w.set(0, 31), 40);
        }
    }

    private static void feeds() {
        ThreePoints x = new ThreePoints();
        for (int n : new int[] {0, 6, -1, MIN, MAX}) Due.is("4 n " + n, x.feed(n, 0, 0, 0, 0, 0), -2);
        for (int b : new int[] {-1, 256, MIN, MAX}) {
            Due.is("4 a " + b, x.feed(1, b, 0, 0, 0, 0), -2);
            Due.is("4 b " + b, x.feed(1, 0, b, 0, 0, 0), -2);
            Due.is("4 c " + b, x.feed(1, 0, 0, b, 0, 0), -2);
            Due.is("4 d " + b, x.feed(1, 0, 0, 0, b, 0), -2);
            Due.is("4 e " + b, x.feed(1, 0, 0, 0, 0, b), -2);
        }
        Due.is("4 none came", x.count(5), 0);
        int has = 0;
        for (int n = 1; n <= 5; n++) {
            has += n;
            Due.is("4 feed " + n, x.feed(n, 255, 0, 1, 2, 3), has);
        }
        for (; has < 155; has += 5) Due.is("4 feed 5", x.feed(5, 1, 1, 1, 1, 1), has + 5);
        Due.is("4 feed 3", x.feed(3, 1, 1, 1, 1, 1), 158);
        Due.is("4 no room for all", x.feed(3, 1, 1, 1, 1, 1), -4);
        Due.is("4 none came", x.count(5), 158);
        Due.is("4 BAD ahead of FULL", x.feed(5, 1, 1, 1, 1, 256), -2);
        Due.is("4 room for two", x.feed(2, 1, 1, 1, 1, 1), 160);
        Due.is("4 FULL", x.feed(1, 1, 1, 1, 1, 1), -4);

        ThreePoints y = new ThreePoints();
        y.vehicle(0, 20);
        y.feed(5, 'c', 'l', 'e', 'a', 'r');
        y.feed(4, 's', '3', ';', 'w', 'x');
        y.feed(3, 'e', 'a', 'r', 'x', 'x');
        y.feed(2, 's', '4', 'x', 'x', 'x');
        y.feed(1, ';', 'x', 'x', 'x', 'x');
        y.feed(5, 's', 'u', 'r', 'e', '5');
        y.feed(1, ';', 'x', 'x', 'x', 'x');
        Due.is("4 they come in their order", y.text(), 1);
        y.force(1);
        Due.is("4 clears", y.asks(0, 0, 2000, 0), 3);
        Due.is("4 wears", y.asks(1, 0, 2000, 0), 4);
        Due.is("4 sure", y.asks(2, 0, 2000, 0), 5);
    }

    private static void texts() {
        ThreePoints x = new ThreePoints();
        Due.is("5 a TEXT", Due.text(x, "clears 1 ; wears 2 ; sure 3 ;"), 1);
        Due.is("5 THE TAPE is empty then", x.count(5), 0);
        Due.is("5 a FAULT", Due.text(x, "clears 1 ; wears ; sure 3 ;"), -117);
        Due.is("5 THE TAPE is empty, by a FAULT, too", x.count(5), 0);
        Due.is("5 a FAULT makes none", x.count(3), 2);
        Due.is("5 without blanks", Due.text(x, "clears1;wears2;sure3;"), 2);
        Due.is("5 with blanks", Due.text(x, " \n clears\n(1)\n;\nwears - 2 ;sure 3;\n \n"), 3);
        Due.is("5 THE LAW stays", x.count(4), 0);
        StringBuilder longest = new StringBuilder("clears 1;wears 1;sure 1");
        while (longest.length() < 159) longest.append("+1");
        longest.append(";");
        Due.is("160 bytes", longest.length(), 160);
        Due.is("5 of 160 bytes", Due.text(x, longest.toString()), 4);
        x.vehicle(0, 20);
        x.force(4);
        Due.is("5 all of them", x.asks(2, 0, 2000, 0), 69);
    }

    private static void textsAreFull() {
        ThreePoints x = new ThreePoints();
        for (int t = 1; t <= 5; t++) Due.is("5 number", Due.text(x, "clears 1;wears 1;sure 1;"), t);
        Due.is("5 FULL, THE TAPE empty", x.text(), -4);
        Due.feed(x, "clears 1;wears 1;sure 1;");
        Due.is("5 FULL", x.text(), -4);
        Due.is("5 THE TAPE stays", x.count(5), 24);
        Due.feed(x, "?");
        Due.is("5 FULL ahead of the FAULT", x.text(), -4);
        Due.is("5 THE TAPE stays", x.count(5), 25);
        Due.is("5 no more of them", x.count(3), 6);
    }

    private static void fault(String text, int place) {
        ThreePoints x = new ThreePoints();
        Due.is("5 FAULT of " + text, Due.text(x, text), -100 - place);
    }

    private static void faults() {
        fault("", 0);
        fault("  ", 2);
        fault("clears", 6);
        fault("wears 1 ;", 0);
        fault("clearsmore ; wears 1 ; sure 1 ;", 0);
        fault("Clears 1 ; wears 1 ; sure 1 ;", 0);
        fault("clear 1 ; wears 1 ; sure 1 ;", 0);
        fault("clears ; wears 1 ; sure 1 ;", 7);
        fault("clears 1 wears 1 ; sure 1 ;", 9);
        fault("clears 1 ; sure 1 ; wears 1 ;", 11);
        fault("clears 1 ; wears 1 ; clears 1 ;", 21);
        fault("clears 1 ; wears 1 ; sure 1", 27);
        fault("clears 1 ; wears 1 ; sure 1 \n", 29);
        fault("clears 1 ; wears 1 ; sure 1 ; ;", 30);
        fault("clears 1 ; wears 1 ; sure 1 ; clears", 30);
        fault("clears 1 ; wears 1 ; sure 1 ; A", 30);
        fault("clears 10000 ; wears 1 ; sure 1 ;", 7);
        fault("clears 00001 ; wears 1 ; sure 1 ;", 7);
        fault("clears 1 + 12345 ; ?", 11);
        fault("clears steer ; wears 1 ; sure 1 ;", 7);
        fault("clears morewall ; wears 1 ; sure 1 ;", 7);
        fault("clears wallz ; wears 1 ; sure 1 ;", 7);
        fault("clears amore ; wears 1 ; sure 1 ;", 7);
        fault("clears 1 + clears ; wears 1 ; sure 1 ;", 11);
        fault("clears 1\t+ 1 ; wears 1 ; sure 1 ;", 8);
        fault("clears 1\r+ 1 ; wears 1 ; sure 1 ;", 8);
        fault("clears 1 > 1 ; wears 1 ; sure 1 ;", 9);
        fault("clears " + (char) 233 + " ; wears 1 ; sure 1 ;", 7);
        fault("clears " + (char) 0 + " ; wears 1 ; sure 1 ;", 7);
        fault("clears 1 1 ; wears 1 ; sure 1 ;", 9);
        fault("clears 1 more ; wears 1 ; sure 1 ;", 9);
        fault("clears 1 not 1 ; wears 1 ; sure 1 ;", 9);
        fault("clears 1 ( 1 ) ; wears 1 ; sure 1 ;", 9);
        fault("clears 1 + + 1 ; wears 1 ; sure 1 ;", 11);
        fault("clears 1 * ; wears 1 ; sure 1 ;", 11);
        fault("clears 1 or ; wears 1 ; sure 1 ;", 12);
        fault("clears and 1 ; wears 1 ; sure 1 ;", 7);
        fault("clears 1 and ; wears 1 ; sure 1 ;", 13);
        fault("clears not ; wears 1 ; sure 1 ;", 11);
        fault("clears 1 < ; wears 1 ; sure 1 ;", 11);
        fault("clears 1 = ; wears 1 ; sure 1 ;", 11);
        fault("clears 1 + ; wears 1 ; sure 1 ;", 11);
        fault("clears 1 - ; wears 1 ; sure 1 ;", 11);
        fault("clears - ; wears 1 ; sure 1 ;", 9);
        fault("clears 1 ; wears 1 ; sure ;", 26);
        fault("clears 1 + not 1 ; wears 1 ; sure 1 ;", 11);
        fault("clears - not 1 ; wears 1 ; sure 1 ;", 9);
        fault("clears 1 < not 1 ; wears 1 ; sure 1 ;", 11);
        fault("clears 1 < 2 < 3 ; wears 1 ; sure 1 ;", 13);
        fault("clears 1 = 2 < 3 ; wears 1 ; sure 1 ;", 13);
        fault("clears not 1 < 2 = 3 ; wears 1 ; sure 1 ;", 17);
        fault("clears ( 1 ; wears 1 ; sure 1 ;", 11);
        fault("clears ( 1", 10);
        fault("clears 1 ) ; wears 1 ; sure 1 ;", 9);
        fault("clears ( ) ; wears 1 ; sure 1 ;", 9);
        fault("clears 1 ; wears 1 ; sure", 25);
    }

    /** Of two that can't stand there the first one tells, of whichever sort they are. */
    private static void firstFaults() {
        fault("more 1 ; wears 1 ; sure 1 ;", 0);
        fault("1 ; wears 1 ; sure 1 ;", 0);
        fault("clears 1 1 ? ; wears 1 ; sure 1 ;", 9);
        fault("clears ? 1 1 ; wears 1 ; sure 1 ;", 7);
        fault("clears 12345 nor ; wears 1 ; sure 1 ;", 7);
        fault("clears nor 12345 ; wears 1 ; sure 1 ;", 7);
        fault("clears 1 + ; wears 12345 ; sure ? ;", 11);
        fault("clears ((((( 1 ( ? ; wears 1 ; sure 1 ;", 15);
        // TOKENS are as long as can be
        fault("clears more1 ; wears 1 ; sure 1 ;", 11);
        fault("clears 1more ; wears 1 ; sure 1 ;", 8);
        fault("clears notmore ; wears 1 ; sure 1 ;", 7);
        fault("clears 1 or1or ; wears 1 ; sure 1 ;", 15);
        fault("clears 99999 ; wears 1 ; sure 1 ;", 7);
        fault("clears 00000 ; wears 1 ; sure 1 ;", 7);
        fault("clears 1234567890123 ; wears 1 ; sure 1 ;", 7);
        ThreePoints x = new ThreePoints();
        Due.is("5 four digits", Due.text(x, "clears 9999 ; wears 0000 ; sure 0009 ;"), 1);
        Due.is("5 a sign ends a WORD and a NUMBER", Due.text(x, "clears more+1;wears(1)*place;sure not more<1or 2and wall;"), 2);
    }

    /** Each byte between two NUMBERS, and ahead of and behind all: a digit, a blank, what joins, or what can't stand there. */
    private static void everyByte() {
        String text = "clears 1 ; wears 1 ; sure 1 ;";
        for (int b = 0; b < 256; b++) {
            boolean blank = b == 32 || b == 10;
            boolean joins = b >= '0' && b <= '9' || "+-*<=".indexOf(b) >= 0;
            // behind a blank there are two NUMBERS, and behind a ; there is 1 where wears is due
            int between = joins ? 1 : blank || b == ';' ? -109 : -108;
            Due.is("5 byte " + b, Due.text(new ThreePoints(), "clears 1" + (char) b + "1 ; wears 1 ; sure 1 ;"), between);
            Due.is("5 byte " + b + " ahead", Due.text(new ThreePoints(), (char) b + text), blank ? 1 : -100);
            Due.is("5 byte " + b + " behind", Due.text(new ThreePoints(), text + (char) b), blank ? 1 : -129);
        }
    }

    /** Each WORD with another letter in each of its places, with a letter less, one more, and one that is a capital. */
    private static void everyWord() {
        String text = "clears 1 or 1 and not 1 ; wears more + wall + heading + place ; sure width + steers ;";
        String[] words = {"clears", "or", "and", "not", "wears", "more", "wall", "heading", "place", "sure", "width", "steers"};
        Due.is("5 all words", Due.text(new ThreePoints(), text), 1);
        for (String word : words) {
            int at = text.indexOf(word);
            String ahead = text.substring(0, at);
            String behind = text.substring(at + word.length());
            for (int i = 0; i < word.length(); i++) {
                String start = word.substring(0, i);
                String end = word.substring(i + 1);
                char other = word.charAt(i) == 'z' ? 'a' : (char) (word.charAt(i) + 1);
                fault(ahead + start + other + end + behind, at);
                fault(ahead + start + end + behind, at);
                fault(ahead + start + word.charAt(i) + word.charAt(i) + end + behind, at);
                fault(ahead + start + (char) (word.charAt(i) - 32) + end + behind, at);
            }
        }
    }

    private static String repeated(char sign, int n) {
        return String.valueOf(sign).repeat(n);
    }

    private static void longTexts() {
        String all = "clears 1;wears 1;sure 1;";
        fault(repeated(' ', 160), 160);
        fault(repeated('a', 160), 0);
        fault("clears " + repeated('1', 153), 7);
        fault("clears " + repeated(' ', 152) + "1", 160);
        fault("clears " + repeated(' ', 152) + "?", 159);
        fault(repeated(';', 160), 0);
        fault("clears 1" + repeated('*', 152), 9);
        ThreePoints x = new ThreePoints();
        Due.is("5 blanks ahead", Due.text(x, repeated(' ', 136) + all), 1);
        Due.is("5 blanks behind", Due.text(x, all + repeated((char) 10, 136)), 2);
        Due.is("5 blanks between", Due.text(x, all.replace("sure", "sure" + repeated(' ', 136))), 3);
    }

    /** Five open, whichever they are, and then a sixth, whichever it is. */
    private static void sixthOpen() {
        String[] opening = {"( ", "- ", "not "};
        for (int i = 0; i < 243; i++) {
            StringBuilder five = new StringBuilder("clears ");
            boolean right = true;
            boolean minus = false;
            for (int k = 0, left = i; k < 5; k++, left /= 3) {
                int which = left % 3;
                // behind a - only a ONE can stand
                right &= !(minus && which == 2);
                minus = which == 1;
                five.append(opening[which]);
            }
            if (!right) continue;
            fault(five + "1 ", five.length() + 2);
            for (int which = 0; which < 3; which++) fault(five + opening[which] + "1 ;", five.length());
        }
    }

    private static void opens() {
        fault("clears ((((((1)))))) ; wears 1 ; sure 1 ;", 12);
        fault("clears ------1 ; wears 1 ; sure 1 ;", 12);
        fault("clears not not not not not not 1 ; wears 1 ; sure 1 ;", 27);
        fault("clears not ( - ( - - 1 ) ) ; wears 1 ; sure 1 ;", 19);
        fault("clears not ( - ( not - 1 ) ) ; wears 1 ; sure 1 ;", 21);
        fault("clears not ( - ( - 1 + - 1 + ( 1 ) + - ( 1 ) ) ) ; wears 1 ; sure 1 ;", 39);
        ThreePoints x = new ThreePoints();
        Due.is("5 five open", Due.text(x, "clears (((((1))))) ; wears -----1 ; sure not not not not not 1 ;"), 1);
        Due.is("5 closed ahead of the next", Due.text(x,
            "clears (1)+(1)+(1)+(1)+(1)+(1) ; wears -1-1-1-1-1-1*-1*-1*-1*-1*-1*-1 ; sure -1+-1 ;"), 2);
        Due.is("5 a not ends with what belongs to it", Due.text(x,
            "clears not 1 and not 1 and not 1 or not 1 or not 1 or not 1 ; wears (((1 - 1 - 1 - 1))) ; sure 1 ;"), 3);
        Due.is("5 a - between is none of them", Due.text(x, "clears (((((1-1-1))))) ; wears 1 ; sure 1 ;"), 4);
    }

    /** What one TEXT left is nothing to the next. */
    private static void textsAnew() {
        ThreePoints x = new ThreePoints();
        x.vehicle(0, 20);
        StringBuilder wrong = new StringBuilder("clears 1;wears 1;sure 1");
        while (wrong.length() < 159) wrong.append("+1");
        for (int i = 0; i < 2; i++) Due.is("5 a FAULT at its end", Due.text(x, wrong.toString()), -259);
        Due.is("5 five open", Due.text(x, "clears ((((("), -112);
        Due.is("5 five open once more", Due.text(x, "clears (((((5))))) ; wears 6 ; sure 7 ;"), 1);
        x.force(1);
        Due.is("7 clears", x.asks(0, 0, 2000, 0), 5);
        Due.is("7 wears", x.asks(1, 0, 2000, 0), 6);
        Due.is("7 sure", x.asks(2, 0, 2000, 0), 7);
    }

    private static void forces() {
        ThreePoints x = new ThreePoints();
        x.vehicle(0, 20);
        Due.is("6 BAD", x.force(1), -2);
        Due.is("6 BAD", x.force(-1), -2);
        Due.text(x, "clears 2 ; wears 3 ; sure 4 ;");
        Due.text(x, "clears 5 ; wears 6 ; sure 7 ;");
        Due.is("6 not by itself", x.asks(0, 0, 2000, 0), 1);
        Due.is("6 which was", x.force(2), 0);
        Due.is("6 which was", x.force(1), 2);
        Due.is("6 THE LAW", x.count(4), 1);
        Due.is("6 THE LAW says", x.asks(0, 0, 2000, 0), 2);
        Due.is("6 which was", x.force(1), 1);
        Due.is("6 which was", x.force(0), 1);
        for (int t : new int[] {3, 5, 6, MIN, MAX}) Due.is("6 BAD " + t, x.force(t), -2);
        Due.is("6 refused, nothing changed", x.count(4), 0);
    }

    private static void asksRefused() {
        ThreePoints x = new ThreePoints();
        Due.is("7 no VEHICLE", x.asks(0, 0, 0, 0), -2);
        x.vehicle(0, 20);
        for (int part : new int[] {-1, 3, MIN, MAX}) Due.is("7 part " + part, x.asks(part, 0, 0, 0), -2);
        for (int v : new int[] {-1, 1, 4, MIN, MAX}) Due.is("7 v " + v, x.asks(0, v, 0, 0), -2);
        for (int at : new int[] {-1, -100, 16, 99, 4016, 4100, MIN, MAX}) Due.is("7 at " + at, x.asks(0, 0, at, 0), -2);
        for (int ws : new int[] {-1, 2, 9, 12, 20, 100, 101, -10, MIN, MAX}) Due.is("7 " + ws, x.asks(0, 0, 0, ws), -2);
        Due.is("7 the least PLACE", x.asks(0, 0, 0, 0), 1);
        Due.is("7 the greatest PLACE", x.asks(0, 0, 4015, 11), 1);
        x.set(0, 60);
        Due.is("7 the greatest PLACE of a wider lane", x.asks(0, 0, 6015, 11), 1);
        for (int at : new int[] {6016, 6099, 6100}) Due.is("7 at " + at, x.asks(0, 0, at, 0), -2);
        x.begin(0, 5);
        x.set(0, 8);
        Due.is("7 the greatest PLACE of a narrow lane", x.asks(0, 0, 815, 11), 1);
        for (int at : new int[] {816, 900, 4015}) Due.is("7 at " + at, x.asks(0, 0, at, 0), -2);
    }

    private static void asksOfTheFirstLaw() {
        ThreePoints x = new ThreePoints();
        x.vehicle(0, 20);
        for (int ws : new int[] {0, 1, 10, 11}) {
            Due.is("7 clears", x.asks(0, 0, 2003, ws), 1);
            Due.is("7 wears", x.asks(1, 0, 2003, ws), 1 + ws % 10);
            Due.is("7 sure", x.asks(2, 0, 2003, ws), 90);
        }
    }

    private static void asksBounded() {
        ThreePoints x = new ThreePoints();
        x.vehicle(0, 20);
        Due.law(x, "clears 10 ; wears 100 ; sure 101 ;");
        Due.is("7 clears at most", x.asks(0, 0, 0, 0), 9);
        Due.is("7 wears at most", x.asks(1, 0, 0, 0), 99);
        Due.is("7 sure at most", x.asks(2, 0, 0, 0), 100);
        Due.law(x, "clears - 1 ; wears 0 - 1 ; sure - 9999 ;");
        for (int part = 0; part < 3; part++) Due.is("7 at least", x.asks(part, 0, 0, 0), 0);
        Due.law(x, "clears 9 ; wears 99 ; sure 100 ;");
        Due.is("7 the bound", x.asks(0, 0, 0, 0), 9);
        Due.is("7 the bound", x.asks(1, 0, 0, 0), 99);
        Due.is("7 the bound", x.asks(2, 0, 0, 0), 100);
    }

    /** What an E comes to, from 0 to 100. */
    private static void value(String e, int want) {
        ThreePoints x = new ThreePoints();
        x.vehicle(7, 20);
        Due.law(x, "clears 0 ; wears 0 ; sure " + e + " ;");
        Due.is("E: " + e, x.asks(2, 0, 1203, 10), want);
    }

    private static void values() {
        value("7 - 2 - 1", 4);
        value("2 + 3 * 4", 14);
        value("(2 + 3) * 4", 20);
        value("- 2 * - 3", 6);
        value("- (2 - 5)", 3);
        value("50 - - 2", 52);
        value("5 or 0", 1);
        value("5 + (0 or 0)", 5);
        value("5 + (0 or 7)", 6);
        value("5 + (0 and 7)", 5);
        value("5 + (7 and 7)", 6);
        value("5 + (not 7)", 5);
        value("5 + (not 0)", 6);
        value("5 + (7 < 7)", 5);
        value("5 + (6 < 7)", 6);
        value("5 + (6 = 7)", 5);
        value("5 + (7 = 7)", 6);
        value("5 + ((0 - 7) and (0 - 7))", 6);
        value("5 + (not (0 - 7))", 5);
        value("0 or 0", 0);
        value("5 and 7", 1);
        value("5 and 0", 0);
        value("0 and 0 or 3", 1);
        value("1 or 0 and 0", 1);
        value("(1 or 0) and 0", 0);
        value("0 - 2 or 0", 1);
        value("not 5", 0);
        value("not 0", 1);
        value("not not 5", 1);
        value("not 1 < 0", 1);
        value("(not 1) < 1", 1);
        value("1 < 2", 1);
        value("2 < 2", 0);
        value("2 = 2", 1);
        value("2 = 3", 0);
        value("0 - 1 < 1", 1);
        value("1 + 1 = 2 and 3 < 4", 1);
        value("5 + (2 < 3)", 6);
        value("8", 8);
        value("(8)", 8);
        value("0042", 42);
        // 10000 * 10000 * 43 is 5032704 more than 2 to the 32nd
        value("(9999 + 1) * (9999 + 1) * 43 = 503 * (9999 + 1) + 2704", 1);
        value("9999 * 9999 * 22 < 0", 1);
    }

    /** 32 bits, wrapping: up, down, by - and by *. */
    private static void wraps() {
        String most = "(9999 * 9999 * 21 + 9999 * 4790 + 8416)";
        value(most + " < 0", 0);
        value(most + " + 1 < 0", 1);
        value(most + " + 1 = - " + most + " - 1", 1);
        value("- " + most + " - 2 = " + most, 1);
        value("- (" + most + " + 1) < 0", 1);
        value("(" + most + " + 1) * 2 = 0", 1);
        value(most + " * " + most, 1);
        value(most + " + 1", 0);
        value(most, 100);
        value("- " + most + " - 1 < " + most, 1);
    }

    private static void names() {
        value("more", 7);
        value("wall", 1);
        value("heading", 3);
        value("place", 12);
        value("width", 40);
        value("steers", 0);
        value("width - place + heading * more + wall * 5", 54);
        ThreePoints x = new ThreePoints();
        x.vehicle(4, 20);
        x.set(0, 50);
        Due.law(x, "clears wall * 2 + steers * 4 ; wears wall * 2 + steers * 4 ; sure width + wall * 2 + steers * 4 ;");
        for (int part = 0; part < 3; part++) {
            int more = part == 2 ? 50 : 0;
            Due.is("7 both as told, of any part", x.asks(part, 0, 3000, 0), more);
            Due.is("7 both as told, of any part", x.asks(part, 0, 3000, 1), more + 4);
            Due.is("7 both as told, of any part", x.asks(part, 0, 3000, 10), more + 2);
            Due.is("7 both as told, of any part", x.asks(part, 0, 3000, 11), more + 6);
        }
    }
}
