/** TEXTS: what is allowed at which place. */
final class TextsSentences extends Sentences {
    private static final String DIGITS = "0123456789";
    private static final String BEHIND = ";!";

    TextsSentences(Book book) {
        super(book);
    }

    @Override
    void all() {
        section("TEXTS");
        length();
        things();
        numbers();
        faults();
    }

    private Run typed(String text) {
        return run("").text(text);
    }

    /** The text has its fault at this index, and adds nothing. */
    private void fault(String text, int index) {
        typed(text).is("addAll", -100 - index).does("count 0 = 0; count 15 = 0");
    }

    private void good(String text, int things) {
        typed(text).is("addAll", things).is("count 0", things);
    }

    /** Behind this beginning each character of a wide range is allowed if it is one of these, and only then. */
    private void allowed(String beginning, String signs) {
        for (int sign = 0; sign <= 300; sign++) sign(beginning, (char) sign, signs.indexOf(sign) >= 0);
        for (int sign : new int[] {0x0661, 0x2044, 0x2460, 0x7fff, 0x8000, 0xff11, 0xff0f, 0xff1b, 0xffff, '1' + 256, '/' + 512}) {
            sign(beginning, (char) sign, false);
        }
    }

    private void sign(String beginning, char sign, boolean allowed) {
        int answer = typed(beginning + sign).ask("addAll");
        boolean isFault = answer == -100 - beginning.length();
        book.isTrue("the character " + (int) sign + " behind '" + beginning + "'", isFault != allowed);
    }

    private void length() {
        sentence("There is a text of at most 80 characters", () -> {
            run("79 * type 49; type 49 = 80; type 49 = FULL; type 0 = FULL; count 16 = 80; clearText = 80; type 49 = 1");
            String text = "99/50;98/49!0;97/48!0!1;96/47!0!1!2;95/46!0!1!2!3;94/45!0!1!2!3!4;93/44!5;90/10!";
            typed(text).does("count 16 = 80; addAll = -180; type 49 = FULL; addAll = -180");
            typed(text.replace(";90/10!", ";1/10!0")).does("count 16 = 80; addAll = 8; type 59 = FULL; thing 7 3 = 0b1");
        });
        sentence(", empty at first.", () -> {
            run("count 16 = 0; clearText = 0; addAll = -100");
        });
    }

    private void things() {
        sentence("A text of things is one or more things with \";\" between two:", () -> {
            good("5/7", 1);
            good("5/7;6/8", 2);
            good("1/1;2/2;3/3;4/4;5/5;6/6;7/7;8/8;9/9;10/10;11/11;12/12", 12);
            fault("5/7;", 4);
            fault(";5/7", 0);
            fault("5/7;;6/8", 4);
            fault("5/7,6/8", 3);
            fault("5/76/8", 3);
            fault("5/7 ;6/8", 3);
            allowed("5/7;", "123456789");
            allowed("5/7!0;", "123456789");
        });
        sentence("a worth (1 to 99), \"/\"", () -> {
            typed("1/1;99/1").does("addAll = 2; thing 0 0 = 1; thing 1 0 = 99");
            allowed("", "123456789");
            allowed("1", DIGITS + "/");
            allowed("9", DIGITS + "/");
            allowed("10", "/");
            allowed("99", "/");
            allowed("5/7;9", DIGITS + "/");
            allowed("5/7;99", "/");
        });
        sentence("and a weight (1 to 50)", () -> {
            typed("1/1;1/50").does("addAll = 2; thing 0 1 = 1; thing 1 1 = 50");
            allowed("5/", "123456789");
            allowed("5/1", DIGITS + BEHIND);
            allowed("5/4", DIGITS + BEHIND);
            allowed("5/5", "0" + BEHIND);
            allowed("5/6", BEHIND);
            allowed("5/9", BEHIND);
            allowed("5/49", BEHIND);
            allowed("5/50", BEHIND);
            allowed("5/7;6/5", "0" + BEHIND);
        });
        sentence(", and then perhaps bars: each \"!\" and the number of another thing that comes ahead of it (0 to 10).", () -> {
            typed("5/5;6/6!0;7/7!1!0").does("addAll = 3; thing 0 3 = 0b110; thing 1 3 = 0b101; thing 2 3 = 0b011; count 2 = 3");
            typed("5/5;6/6;7/7!0").does("addAll = 3; thing 1 3 = 0; thing 2 3 = 0b001; count 2 = 1");
            run("put 11x1/1").text("5/5!10!9!0").does("addAll = 12; thing 11 3 = 0b11000000001");
            typed("5/5!0").does("addAll = UNKNOWN; count 0 = 0");
            typed("5/5;6/6!1").does("addAll = UNKNOWN; count 0 = 0");
            typed("5/5;6/6!10").does("addAll = UNKNOWN; count 0 = 0");
            fault("5/5;6/6!11", 9);
            fault("5/5;6/6!-1", 8);
            fault("5/5!0/6", 5);
            fault("5/5!!0", 4);
            allowed("5/5!", DIGITS);
            allowed("5/5!0!", DIGITS);
            allowed("5/5!1", "0" + BEHIND);
            allowed("5/5!2", BEHIND);
            allowed("5/5!9", BEHIND);
            allowed("5/5!10", BEHIND);
        });
    }

    private void numbers() {
        sentence("Numbers do not begin with 0", () -> {
            fault("0/5", 0);
            fault("05/5", 0);
            fault("5/0", 2);
            fault("5/05", 2);
            fault("5/5;01/5", 4);
            fault("5/5;6/6!00", 9);
            fault("5/5;6/6!01", 9);
            fault("5/5;6/6!010", 9);
        });
        sentence(", unless they are the single digit 0;", () -> {
            typed("5/5;6/6!0").does("addAll = 2; thing 1 3 = 1");
            typed("5/5;6/6!0;7/7!0!1").does("addAll = 3; thing 2 3 = 0b11");
            allowed("5/5!0", BEHIND);
            typed("10/50;20/40").does("addAll = 2; thing 0 0 = 10; thing 1 1 = 40");
        });
        sentence("a digit by which a number would be greater than told is not allowed.", () -> {
            fault("100/5", 2);
            fault("991/5", 2);
            fault("5/51", 3);
            fault("5/60", 3);
            fault("5/100", 4);
            fault("5/500", 4);
            fault("5/5!11", 5);
            fault("5/5!20", 5);
            fault("5/5!100", 6);
            good("99/50", 1);
        });
    }

    private void faults() {
        sentence("The fault of the text is the index, from 0, of the first character that is not allowed at its place", () -> {
            fault("x", 0);
            fault("x5/5x", 0);
            fault("5x5/5", 1);
            fault("5/x", 2);
            fault("5/5x0/0", 3);
            fault("5/5;0/0;x", 4);
            fault("5/5;6/6!x", 8);
            fault("1/1;".repeat(19) + "1/1x", 79);
            fault("1/1;".repeat(19) + "1/0!", 78);
            fault("5/5\0", 3);
            fault("5/5\u00b2", 3);
            fault("\u0665/5", 0);
            fault("5 /5", 1);
            fault("+5/5", 0);
        });
        sentence("or the length of the text if it ends too early", () -> {
            fault("5", 1);
            fault("55", 2);
            fault("5/", 2);
            fault("5/5!", 4);
            fault("5/5!0!", 6);
            fault("5/5;", 4);
            fault("5/5;6", 5);
            fault("5/5;6/", 6);
            fault("1/1;".repeat(20), 80);
            fault("1/1;".repeat(19) + "1/1!", 80);
            good("5/5", 1);
            typed("5/5;").does("addAll = -104").type("6/6").does("addAll = 2");
        });
        sentence("(the empty text does).", () -> {
            run("addAll = -100; count 0 = 0");
            run("put 5/5").text("5/5").does("clearText = 3; addAll = -100; count 0 = 1");
        });
    }
}
