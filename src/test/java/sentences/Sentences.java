/** What the tests of the sentences have in common. */
abstract class Sentences {
    /** Ratios 6, 4.95, 5, 4.16.. and 3.5: the bound is 159, the heel 0b10101 with 157, the best 0b00011. */
    static final String FIVE = "put 60/10 99/20 90/18 50/12 7/2; ";
    /** Even weights and an odd room: each bound is 11, each heel 10, until few are free. */
    static final String ENDLESS = "put 12x2/2; setRoom 11; ";
    /** As ENDLESS, with the order and the choice by which each of the first 199 steps branches. */
    static final String WIDE = ENDLESS + "set 0 2; set 1 1; ";

    final Book book;

    Sentences(Book book) {
        this.book = book;
    }

    abstract void all();

    void section(String name) {
        book.section(name);
    }

    void sentence(String words, Runnable test) {
        book.sentence(words, test);
    }

    /** A test that is made of runs of calls alone, each on a new object. */
    void sentence(String words, String... scripts) {
        book.sentence(words, () -> {
            for (String script : scripts) run(script);
        });
    }

    Run run(String script) {
        return new Run(book).does(script);
    }
}
