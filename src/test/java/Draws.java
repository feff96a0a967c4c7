/** The draws as the document tells them, so that tests can look for a seed by what it draws. */
final class Draws {
    private long seed;

    Draws(long seed) {
        this.seed = seed;
    }

    int draw(int n) {
        seed = (seed * 1103515245L + 12345L) % 2147483648L;
        return (int) (seed / 65536 % n);
    }

    int seed() {
        return (int) seed;
    }

    /** The least seed that draws this chance of 8; behind it, if it is 2 or 3, the second draw, of 21 or of 10. */
    static int seedOf(int chance, int second) {
        for (int seed = 0; seed < 1000000; seed++) {
            Draws draws = new Draws(seed);
            if (draws.draw(8) == chance
                    && (chance != 2 || draws.draw(21) == second) && (chance != 3 || draws.draw(10) == second)) {
                return seed;
            }
        }
        throw new IllegalStateException("no seed draws " + chance + ", " + second);
    }

    /** The seed behind that year's draws. */
    static int behind(int seed, int chance) {
        Draws draws = new Draws(seed);
        draws.draw(8);
        if (chance == 2 || chance == 3) {
            draws.draw(21);
        }
        return draws.seed();
    }
}
