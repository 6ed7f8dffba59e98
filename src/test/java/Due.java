/** What a test needs: tells every answer that is not the one that is due, and ends with 1 if there was one. */
final class Due {
    private static int right = 0;
    private static int wrong = 0;

    private Due() {
    }

    static void is(String what, long got, long want) {
        if (got == want) {
            right++;
            return;
        }
        wrong++;
        System.out.println(what + " answered " + got + ", due is " + want);
    }

    static void isTrue(String what, boolean got) {
        is(what, got ? 1 : 0, 1);
    }

    /** Feeds all bytes of a text; each is taken, so THE TAPE must have room. */
    static void feed(ThreePoints x, String text) {
        for (int i = 0; i < text.length(); i++) x.feed(1, text.charAt(i), 0, 0, 0, 0);
    }

    static int text(ThreePoints x, String text) {
        feed(x, text);
        return x.text();
    }

    /** A new TEXT is THE LAW. */
    static void law(ThreePoints x, String text) {
        int t = text(x, text);
        isTrue("a TEXT: " + text, t > 0);
        isTrue("THE LAW: " + text, x.force(t) >= 0);
    }

    /** A SHEET of ints with these numbers. */
    static void sheet(ThreePoints x, int s, int... numbers) {
        sheetOf(x, s, 2, numbers);
    }

    static void sheetOf(ThreePoints x, int s, int sort, int... numbers) {
        is("a SHEET", x.sheet(s, sort, numbers.length), 1);
        for (int i = 0; i < numbers.length; i++) is("a cell", x.cell(s, i, numbers[i]), 1);
    }

    /** Where a VEHICLE is and what it has come to, as one text. */
    static String state(ThreePoints x, int v) {
        StringBuilder all = new StringBuilder();
        for (int what = 0; what <= 8; what++) all.append(x.told(v, what)).append(' ');
        return all.toString().trim();
    }

    static void same(String what, String got, String want) {
        if (!got.equals(want)) System.out.println(what + ": " + got + " instead of " + want);
        isTrue(what, got.equals(want));
    }

    static void end() {
        System.out.println(wrong == 0 ? right + " answers are as due" : wrong + " answers are not as due");
        if (wrong != 0) System.exit(1);
    }
}
