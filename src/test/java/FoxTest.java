/** Promises 11 to 14: fox, go, smell, now. */
public final class FoxTest {
    private static final Check CHECK = new Check("fox");
    private static final int NONE = HuntedScent.NONE, BAD = HuntedScent.BAD, STATE = HuntedScent.STATE;

    public static void main(String[] args) {
        nowhere();
        walks();
        rests();
        water();
        strongest();
        CHECK.done();
    }

    private static void nowhere() {
        HuntedScent x = Check.told("lane 0 1;rest;");
        CHECK.due("go", x.go(0), STATE);
        CHECK.due("no such node first", x.go(5), BAD);
        CHECK.due("where", x.now(0), NONE);
        CHECK.due("strongest", x.now(2), NONE);
        CHECK.due("fox(-1)", x.fox(-1), BAD);
        CHECK.due("fox(5)", x.fox(5), BAD);
        CHECK.due("still nowhere", x.now(0), NONE);
        CHECK.due("now(-1)", x.now(-1), BAD);
        CHECK.due("now(4)", x.now(4), BAD);
        CHECK.due("smell(-1)", x.smell(-1), BAD);
        CHECK.due("smell(5)", x.smell(5), BAD);
        CHECK.due("smell(0)", x.smell(0), 0);
    }

    private static void walks() {
        HuntedScent x = Check.told("lane 0 1 2;");
        CHECK.due("fox", x.fox(0), 9);
        CHECK.due("too far", x.go(2), NONE);
        CHECK.due("no rest", x.go(0), NONE);
        CHECK.due("no move yet", x.now(1), 0);
        CHECK.due("one on", x.go(1), 9);
        CHECK.due("behind him", x.smell(0), 8);
        CHECK.due("back", x.go(0), 16);
        CHECK.due("behind him", x.smell(1), 8);
        CHECK.due("again", x.go(1), 16);
        CHECK.due("twice", x.smell(0), 15);
        CHECK.due("again", x.go(0), 18);
        CHECK.due("moves", x.now(1), 4);
        CHECK.due("where", x.now(0), 0);
        CHECK.due("summed", x.now(3), 18 + 15);
        CHECK.due("he begins anew", x.fox(2), 9);
        CHECK.due("all else is 0", x.now(3), 9);
        CHECK.due("no moves", x.now(1), 0);
        x.go(1);
        for (int i = 0; i < 8; i++) {
            CHECK.due("it fades", x.smell(2), 8 - i);
            x.go(i % 2 == 0 ? 0 : 1);
        }
        CHECK.due("to 0", x.smell(2), 0);
        x.go(0);
        CHECK.due("and no less", x.smell(2), 0);
    }

    private static void rests() {
        HuntedScent x = Check.told("rest;");
        x.fox(3);
        CHECK.due("he stays", x.go(3), 17);
        CHECK.due("no more than 18", x.go(3), 18);
        CHECK.due("no more than 18", x.go(3), 18);
        CHECK.due("moves", x.now(1), 3);
        CHECK.due("no lane", x.go(2), NONE);
        CHECK.due("no joined node", x.now(2), NONE);
        HuntedScent y = Check.told("rest;lane 3 1;");
        y.fox(1);
        y.go(3);
        for (int i = 0; i < 7; i++) {
            y.go(3);
        }
        CHECK.due("nearly gone", y.smell(1), 1);
        CHECK.due("but to be smelt", y.now(2), 1);
        CHECK.due("on two nodes", y.count(1), 2);
        y.go(3);
        CHECK.due("gone", y.now(2), NONE);
        CHECK.due("on one node", y.count(1), 1);
    }

    private static void water() {
        HuntedScent x = Check.told("lane 0 1 2;water 1;");
        CHECK.due("he begins in water", x.fox(1), 0);
        CHECK.due("no smell", x.now(3), 0);
        x.fox(0);
        CHECK.due("into water", x.go(1), 0);
        CHECK.due("behind him", x.smell(0), 8);
        CHECK.due("of it none", x.count(1), 1);
        CHECK.due("out of it", x.go(0), 16);
        CHECK.due("no smell there", x.smell(1), 0);
        CHECK.due("joined to water alone", x.now(2), NONE);
    }

    private static void strongest() {
        HuntedScent x = Check.told("nodes 6;lane 0 1 2 3;lane 0 2;rest;");
        x.fox(0);
        CHECK.due("all 0", x.now(2), NONE);
        x.go(1);
        CHECK.due("where he was", x.now(2), 0);
        x.go(2);
        CHECK.due("the stronger one", x.now(2), 1);
        x.fox(0);
        x.go(1);
        x.go(1);
        x.go(0);
        CHECK.due("the only one with a smell", x.now(2), 1);
        HuntedScent y = Check.told("lane 0 1 2;lane 1 3;lane 1 4;");
        y.fox(4);
        y.go(1);
        y.go(3);
        y.go(1);
        y.go(2);
        y.go(1);
        CHECK.due("of 2: 8, 3: 6, 4: 4", y.now(2), 2);
        HuntedScent z = Check.told("nodes 4;lane 1 0 2;lane 0 3;rest;");
        z.fox(1);
        z.go(0);
        z.go(2);
        CHECK.due("1 has", z.smell(1), 7);
        z.go(2);
        z.go(0);
        CHECK.due("2 has", z.smell(2), 16);
        CHECK.due("not the least, the strongest", z.now(2), 2);
        HuntedScent tied = Check.told("nodes 4;lane 1 0 2;lane 0 3;rest;");
        tied.fox(2);
        tied.go(0);
        CHECK.due("twice in 2", tied.go(2), 16);
        for (int i = 0; i < 6; i++) {
            tied.go(0);
        }
        CHECK.due("once in 1", tied.go(1), 9);
        tied.go(0);
        CHECK.due("1 and 2 are as strong", tied.smell(1), tied.smell(2));
        CHECK.due("of these the least", tied.now(2), 1);
    }
}
