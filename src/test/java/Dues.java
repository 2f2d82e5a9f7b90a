/** Tells what is not as due, and ends a test with exit code 1 if there was something. */
final class Dues {
    private int wrong = 0;

    void due(String what, boolean holds) {
        if (!holds) {
            wrong++;
            System.out.println("not so: " + what);
        }
    }

    void close(String summary) {
        System.out.println(summary + ", " + wrong + " wrong");
        if (wrong != 0) {
            System.exit(1);
        }
    }
}
