/** Promises 2 to 5: feed, end, text, fault. */
public final class TextTest {
    private static final Check CHECK = new Check("text");

    public static void main(String[] args) {
        feeds();
        ends();
        taken();
        refusedKeepsAll();
        noToken();
        misplaced();
        outOfBounds();
        twice();
        tooMany();
        noSuchNode();
        theFirstMet();
        CHECK.done();
    }

    private static void feeds() {
        HuntedScent x = new HuntedScent();
        // "rest;  " and a blank, the highest byte first
        CHECK.due("feed", x.feed(0x726573743b202020L), 8);
        CHECK.due("text", x.text(), 1);
        CHECK.due("rest", x.rule(2), 1);
        for (int i = 1; i <= 40; i++) {
            CHECK.due("feed " + i, x.feed(0x2020202020202020L), 8 * i);
        }
        CHECK.due("feed too much", x.feed(0), HuntedScent.FULL);
        CHECK.due("what is refused is not there", x.count(3), 320);
        x.end(313);
        CHECK.due("seven bytes free", x.feed(0), HuntedScent.FULL);
        x.end(312);
        CHECK.due("eight bytes free", x.feed(0x2020202020202020L), 320);
        CHECK.due("320 blanks", x.text(), 0);
        CHECK.due("a tape that is empty then", x.count(3), 0);
        CHECK.due("signs above 127", x.feed(0x8020202020202020L), 8);
        CHECK.due("are no token", x.text(), -10);
        CHECK.due("fault", x.fault(), 1);
    }

    private static void ends() {
        HuntedScent x = new HuntedScent();
        CHECK.due("end of nothing", x.end(0), 0);
        CHECK.due("above that", x.end(1), HuntedScent.BAD);
        x.feed(0x726573743b726573L);
        CHECK.due("below 0", x.end(-1), HuntedScent.BAD);
        CHECK.due("above 8", x.end(9), HuntedScent.BAD);
        CHECK.due("as many", x.end(8), 8);
        CHECK.due("five", x.end(5), 8);
        CHECK.due("are kept", x.count(3), 5);
        CHECK.due("and are the first", x.text(), 1);
    }

    private static void taken() {
        HuntedScent x = new HuntedScent();
        Check.type(x, " nodes7;rest ;start 3;lane 0 1 2;lane 6 0;water 02;water 3;hole 6;hole 2;smelt 5 6 18;smelt 0 0 00; ");
        CHECK.due("lines", x.text(), 11);
        CHECK.due("fault", x.fault(), 0);
        CHECK.due("nodes", x.rule(0), 7);
        CHECK.due("lanes", x.rule(1), 3);
        CHECK.due("rest", x.rule(2), 1);
        CHECK.due("start", x.rule(3), 3);
        CHECK.due("water", x.rule(4), 12);
        CHECK.due("holes", x.rule(5), 68);
        CHECK.due("joined to 0", x.lanes(0), 66);
        CHECK.due("smelt", x.count(0), 2);
        x.fox(1);
        x.keep(1);
        x.sheet(0, 1, 4);
        Check.type(x, "hole 1;");
        CHECK.due("another text", x.text(), 1);
        CHECK.due("nodes as at first", x.rule(0), 5);
        CHECK.due("no lanes", x.rule(1), 0);
        CHECK.due("no rest", x.rule(2), 0);
        CHECK.due("no start", x.rule(3), HuntedScent.NONE);
        CHECK.due("no water", x.rule(4), 0);
        CHECK.due("its hole alone", x.rule(5), 2);
        CHECK.due("nothing smelt", x.count(0), 0);
        CHECK.due("the fox is nowhere", x.now(0), HuntedScent.NONE);
        CHECK.due("no smells", x.now(3), 0);
        CHECK.due("images are gone", x.count(2), 0);
        CHECK.due("and can not come back", x.back(1), HuntedScent.STATE);
        CHECK.due("sheets stay", x.count(4), 4);
        CHECK.due("an empty tape", x.text(), 0);
        CHECK.due("tells all, too", x.rule(5), 0);
        told("nodes 02;", 1, 0);
        told("nodes 10;lane 9 8 7 6 5 4 3 2 1 0 9;", 2, 0);
        told("lane 0 1;water 0;hole 0;", 3, 0);
        told("lane 0 5 ;nodes 6;", 2, 0);
        told("smelt 1 1 1;smelt 1 1 1;", 2, 0);
    }

    private static void refusedKeepsAll() {
        HuntedScent x = Check.told("nodes 6;rest;start 1;lane 0 1;smelt 0 1 9;");
        x.fox(1);
        x.keep(0);
        Check.type(x, "nodes 4;hole 1;water 1;smelt 1 1 1;smelt 1 1 19;");
        CHECK.due("refused", x.text(), -10 - 45);
        CHECK.due("its fault", x.fault(), 3);
        CHECK.due("nodes stay", x.rule(0), 6);
        CHECK.due("lanes stay", x.lanes(1), 1);
        CHECK.due("holes stay", x.rule(5), 0);
        CHECK.due("smelt stays", x.count(0), 1);
        CHECK.due("images stay", x.count(2), 1);
        CHECK.due("the fox stays", x.now(0), 1);
        CHECK.due("the tape is empty", x.count(3), 0);
        Check.type(x, "rest;");
        x.text();
        CHECK.due("a text that is taken has none", x.fault(), 0);
    }

    /** One text on a new object: its answer, or the place of its fault, and the fault. */
    private static void told(String text, int want, int fault) {
        HuntedScent x = new HuntedScent();
        Check.type(x, text);
        CHECK.due("text '" + text + "'", x.text(), fault == 0 ? want : -10 - want);
        CHECK.due("fault of '" + text + "'", x.fault(), fault);
    }

    private static void noToken() {
        told(".", 0, 1);
        told("Rest;", 0, 1);
        told("rest\n;", 4, 1);
        told("start -1;", 6, 1);
        told("start 000;", 6, 1);
        told("start 4294967296;", 6, 1);
        told("  123", 2, 1);
        told("rest;\u00e9", 5, 1);
        told("rest;\u0000", 5, 1);
        told("lane 0,1;", 6, 1);
    }

    private static void misplaced() {
        told("res;", 0, 2);
        told("rests;", 0, 2);
        told("a;", 0, 2);
        told("nodesrest;", 0, 2);
        told(";", 0, 2);
        told("rest;;", 5, 2);
        told(" 12;", 1, 2);
        told("rest", 4, 2);
        told("rest  ", 6, 2);
        told("rest rest;", 5, 2);
        told("rest 0;", 5, 2);
        told("nodes;", 5, 2);
        told("nodes 5 5;", 8, 2);
        told("nodes rest;", 6, 2);
        told("start", 5, 2);
        told("start;", 5, 2);
        told("start 0 0;", 8, 2);
        told("lane;", 4, 2);
        told("lane 0;", 6, 2);
        told("lane 0", 6, 2);
        told("lane 0 1", 8, 2);
        told("lane 0 1 rest;", 9, 2);
        told("water;", 5, 2);
        told("water 0 1;", 8, 2);
        told("hole x;", 5, 2);
        told("hole 1 2;", 7, 2);
        told("smelt;", 5, 2);
        told("smelt 1;", 7, 2);
        told("smelt 1 1;", 9, 2);
        told("smelt 1 1 1", 11, 2);
        told("smelt 1 1 1 1;", 12, 2);
    }

    private static void outOfBounds() {
        told("nodes 1;", 6, 3);
        told("nodes 0;", 6, 3);
        told("nodes 11;", 6, 3);
        told("start 10;", 6, 3);
        told("lane 10 0;", 5, 3);
        told("lane 0 10;", 7, 3);
        told("lane 0 1 99;", 9, 3);
        told("water 10;", 6, 3);
        told("hole 10;", 5, 3);
        told("smelt 6 0 0;", 6, 3);
        told("smelt 0 10 0;", 8, 3);
        told("smelt 0 0 19;", 10, 3);
        told("smelt 5 4 18;nodes 10;start 9;", 3, 0);
    }

    private static void twice() {
        told("nodes 5;rest;nodes 5;", 13, 4);
        told("rest;rest;", 5, 4);
        told("start 1;start 1;", 8, 4);
        told("lane 0 0;", 7, 4);
        told("lane 0 1 1;", 9, 4);
        told("lane 0 1 0;", 9, 4);
        told("lane 0 1 2 0 1;", 13, 4);
        told("lane 0 1;lane 1 0;", 16, 4);
        told("water 1;hole 1;water 1;", 21, 4);
        told("hole 1;water 1;hole 1;", 20, 4);
    }

    private static void tooMany() {
        String one = "smelt 0 0 0;";
        told(one.repeat(10), 10, 0);
        told(one.repeat(11), 120, 5);
        told(one.repeat(10) + "smelt", 120, 5);
    }

    private static void noSuchNode() {
        told("start 5;", 8, 6);
        told("lane 0 5; ", 10, 6);
        told("lane 5 0;", 9, 6);
        told("water 7;", 8, 6);
        told("hole 5;", 7, 6);
        told("smelt 0 5 0;", 12, 6);
        told("nodes 10;start 9;nodes", 17, 4);
        told("start 4;nodes 4;", 16, 6);
        told("start 4;nodes 5;", 2, 0);
        told("lane 9 8;nodes 9;", 17, 6);
    }

    /** A token is read when the one before has been taken, not ahead of it. */
    private static void theFirstMet() {
        told("rest;rest.", 5, 4);
        told("nodes 5;nodes 999", 8, 4);
        told("nodes 1.", 6, 3);
        told("foo 999;", 0, 2);
        told("start 7;lane 0 0;", 15, 4);
        told("lane 0 0 10;", 7, 4);
        told("water 3;water 3 x;", 14, 4);
        told("smelt 9 99 99;", 6, 3);
    }
}
