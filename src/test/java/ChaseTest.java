/** Promises 27 to 29: caught, flees, best. */
public final class ChaseTest {
    private static final Check CHECK = new Check("chase");
    private static final int NONE = HuntedScent.NONE, BAD = HuntedScent.BAD, STATE = HuntedScent.STATE;

    public static void main(String[] args) {
        wrongNumbers();
        ring();
        row();
        never();
        changes();
        CHECK.done();
    }

    private static void wrongNumbers() {
        HuntedScent x = Check.told("lane 0 1 2;");
        int[] bad = {-1, 5, 10, Integer.MAX_VALUE, Integer.MIN_VALUE};
        for (int i : bad) {
            CHECK.due("caught " + i, x.caught(i, 0, 0), BAD);
            CHECK.due("caught 0 " + i, x.caught(0, i, 0), BAD);
            CHECK.due("caught 0 0 " + i, x.caught(0, 0, i), BAD);
            CHECK.due("flees " + i, x.flees(i, 0, 0), BAD);
            CHECK.due("flees 0 " + i, x.flees(0, i, 0), BAD);
            CHECK.due("flees 0 0 " + i, x.flees(0, 0, i), BAD);
        }
        CHECK.due("best(-1)", x.best(-1), BAD);
        CHECK.due("best(2)", x.best(2), BAD);
        CHECK.due("he is caught already", x.flees(1, 1, 0), STATE);
        CHECK.due("by the other one, too", x.flees(1, 0, 1), STATE);
        CHECK.due("no turn", x.caught(1, 1, 0), 0);
        CHECK.due("no turn", x.caught(1, 4, 1), 0);
    }

    /** 0 .. 5 in a ring: two hounds take him between them. */
    private static void ring() {
        HuntedScent x = Check.told("nodes 6;lane 0 1 2 3 4 5 0;");
        CHECK.due("both ahead", x.caught(0, 3, 3), 3);
        CHECK.due("on both sides", x.caught(0, 2, 4), 1);
        CHECK.due("he can only stay away for as long", x.flees(0, 2, 4), 1);
        CHECK.due("both behind him", x.caught(0, 1, 1), 3);
        CHECK.due("away from them", x.flees(0, 1, 1), 5);
        CHECK.due("hounds are alike", x.caught(0, 1, 3), x.caught(0, 3, 1));
        CHECK.due("the best pair", x.best(0), 3);
        CHECK.due("its turns", x.best(1), 1);
    }

    private static void row() {
        HuntedScent x = Check.told("rest;lane 0 1 2 3 4;");
        CHECK.due("at the end he rests", x.caught(0, 4, 4), 4);
        CHECK.due("best is to rest", x.flees(0, 4, 4), 0);
        CHECK.due("between them", x.caught(2, 0, 4), 2);
        CHECK.due("in the middle", x.flees(2, 0, 4), 2);
        CHECK.due("the best pair, by the lesser node", x.best(0), 3);
        CHECK.due("its turns", x.best(1), 1);
        HuntedScent y = Check.told("nodes 2;lane 0 1;");
        CHECK.due("on both nodes", y.best(0), 1);
        CHECK.due("no turn", y.best(1), 0);
        CHECK.due("he has to come to the hound", y.caught(1, 0, 0), 1);
        CHECK.due("and does", y.flees(1, 0, 0), 0);
    }

    private static void never() {
        HuntedScent x = Check.told("nodes 3;lane 0 1;");
        CHECK.due("no way to him", x.caught(2, 0, 1), NONE);
        CHECK.due("he can not move", x.flees(2, 0, 1), 2);
        CHECK.due("one for each part", x.best(0), 2);
        CHECK.due("one turn", x.best(1), 1);
        HuntedScent y = new HuntedScent();
        CHECK.due("five parts", y.best(0), NONE);
        CHECK.due("five parts", y.best(1), NONE);
        HuntedScent z = Check.told("nodes 8;lane 0 1 2 3 4 5 6 7 0;lane 0 4;rest;");
        CHECK.holds("two are enough for two rings", z.best(1) > 0);
        // Petersen's net needs three
        HuntedScent p = Check.told("nodes 10;lane 0 1 2 3 4 0 5 7 9 6 8 5;lane 1 6;lane 2 7;lane 3 8;lane 4 9;rest;");
        CHECK.due("never", p.caught(0, 2, 3), NONE);
        CHECK.due("no pair", p.best(0), NONE);
        CHECK.due("the least node by which it stays so", p.flees(0, 1, 4), 5);
        CHECK.due("where he is, if he may rest", p.flees(0, 2, 3), 0);
        CHECK.due("nor by two behind him", p.caught(0, 1, 1), NONE);
    }

    private static void changes() {
        CHECK.due("flees asked first", Check.told("lane 0 1 2;rest;").flees(1, 0, 0), 2);
        CHECK.due("best asked first", Check.told("nodes 4;rest;lane 0 1 2 3;").best(1), 1);
        HuntedScent x = Check.told("lane 0 1 2 3 4;");
        CHECK.due("a row", x.caught(4, 0, 0), 3);
        x.join(0, 4, true);
        CHECK.due("a ring", x.caught(4, 0, 0), 2);
        x.join(0, 4, false);
        x.join(2, 3, false);
        CHECK.due("two parts", x.caught(4, 0, 0), NONE);
        x.stop(0, 0, 0);
        CHECK.due("two parts still", x.caught(4, 0, 0), NONE);
        Check.type(x, "nodes 4;rest;lane 0 1 2 3;");
        x.text();
        CHECK.due("another net", x.caught(3, 0, 0), 3);
    }
}
