/** Boundary cases of what stands on the tape, token by token, and of its faults: promise 4. */
final class TokenBounds {
    private static final String[] LINES = {"nodes 5 ;", "rest ;", "start 0 ;", "lane 0 1 2 ;", "water 1 ;", "hole 2 ;", "smelt 0 1 9 ;"};
    private static final String ONE_SMELT = "smelt 0 0 0;";
    private static final int NO_TOKEN = 1, MISPLACED = 2, OUT_OF_BOUNDS = 3, TWICE = 4, TOO_MANY = 5, NO_NODE = 6;

    private final Bounds b;

    private TokenBounds(Bounds b) {
        this.b = b;
    }

    static void all(Bounds b) {
        TokenBounds t = new TokenBounds(b);
        t.tokens();
        t.blanks();
        t.bytes();
        t.lines();
        t.lanes();
        t.smelts();
        t.order();
        t.noToken();
        t.misplaced();
        t.outOfBounds();
        t.twice();
        t.tooMany();
        t.noSuchNode();
    }

    private void taken(String text, int lines) {
        HuntedScent x = new HuntedScent();
        Check.type(x, text);
        b.due("text() of '" + text + "'", x.text(), lines);
        b.due("fault() of '" + text + "'", x.fault(), 0);
    }

    private void faulty(String text, int fault, int place) {
        HuntedScent x = new HuntedScent();
        Check.type(x, text);
        b.due("text() of '" + text + "'", x.text(), -10 - place);
        b.due("fault() of '" + text + "'", x.fault(), fault);
    }

    private void tokens() {
        b.says(4, "TOKENS, each as long as may be,");
        faulty("restrest;", MISPLACED, 0);
        faulty("nodes 100;", NO_TOKEN, 6);
        faulty("lane 0 12;", OUT_OF_BOUNDS, 7);
        faulty("lane 01;", MISPLACED, 7);
        taken("hole 01;", 1);
        b.due("which is node 1", Check.told("hole 01;").rule(5), 2);
        b.due("ten nodes", Check.told("nodes 10;").rule(0), 10);
    }

    private void blanks() {
        b.says(4, "blanks (32) ahead, between, behind, as many as wanted");
        taken("start 1;", 1);
        for (int many = 1; many <= 312; many += 311) {
            String some = " ".repeat(many);
            taken(some + "start 1;", 1);
            taken("start" + some + "1 ;", 1);
            taken("start 1" + some + ";", 1);
            taken("start 1;" + some, 1);
        }
        int[] strange = {0, 9, 10, 13, 31, 33, 95, 127, 128, 160, 255};
        for (int sign : strange) {
            faulty((char) sign + "rest;", NO_TOKEN, 0);
            faulty("rest" + (char) sign + ";", NO_TOKEN, 4);
            faulty("rest;" + (char) sign, NO_TOKEN, 5);
        }

        b.says(4, "(at least one between two NAMES, between two NUMBERS; else none is needed)");
        faulty("rest rest;", MISPLACED, 5);
        faulty("restart;", MISPLACED, 0);
        taken("lane 0 1;", 1);
        faulty("lane 0 123;", NO_TOKEN, 7);
        taken("smelt0 0 0;", 1);
        faulty("smelt0 00;", MISPLACED, 9);
        taken("nodes6;rest;start5;lane0 1;water2;hole3;smelt4 4 4;", 7);
        faulty("start0rest;", MISPLACED, 6);
    }

    private void bytes() {
        b.says(4, "NAMES (a .. z), NUMBERS (1 or 2 figures), the sign ; (a point is none).");
        for (int sign = 0; sign < 256; sign++) {
            boolean isFigure = sign >= '0' && sign <= '9';
            boolean isToken = isFigure || sign >= 'a' && sign <= 'z' || sign == ';';
            int fault = isToken ? MISPLACED : NO_TOKEN;
            if (sign != ' ') {
                faulty("" + (char) sign, fault, 0);
                faulty("rest;" + (char) sign, fault, 5);
                faulty("start " + (char) sign, fault, isFigure ? 7 : 6);
            }
        }
        taken(" ", 0);
        taken("start 0;", 1);
        taken("start 00;", 1);
        faulty("start 000;", NO_TOKEN, 6);
        taken("start 09;nodes 10;", 2);
        faulty("start 99;", OUT_OF_BOUNDS, 6);
        faulty("start 100;", NO_TOKEN, 6);
        faulty("start 4294967297;", NO_TOKEN, 6);
        faulty("start .;", NO_TOKEN, 6);
        faulty("start 1.;", NO_TOKEN, 7);
    }

    /** Each line up to each of its tokens, and with one more, and with a name or a sign for a number. */
    private void lines() {
        b.says(4, "text: { line } line: nodes N ; | rest ; | start N ; | lane N { N } ; | water N ; | hole N ; | smelt N N N ;");
        StringBuilder all = new StringBuilder();
        for (String line : LINES) {
            taken(line, 1);
            all.append(line);
            String[] tokens = line.split(" ");
            StringBuilder some = new StringBuilder();
            for (int i = 0; i < tokens.length - 1; i++) {
                some.append(tokens[i]).append(' ');
                faulty(some.toString(), MISPLACED, some.length());
                faulty(some + "rest", MISPLACED, some.length());
                boolean isWhole = i == tokens.length - 2 || tokens[0].equals("lane") && i == 2;
                if (isWhole) {
                    taken(some + ";", 1);
                } else {
                    faulty(some + ";", MISPLACED, some.length());
                }
            }
            if (tokens[0].equals("lane")) {
                taken(some + "3;", 1);
            } else {
                faulty(some + "3;", MISPLACED, some.length());
            }
        }
        taken("", 0);
        taken(all.toString(), 7);
        faulty(all + "nodes", TWICE, all.length());
    }

    private void lanes() {
        b.says(4, "lane: a row of NODES (0 to 9, two at least), each joined to the next one.");
        faulty("lane;", MISPLACED, 4);
        faulty("lane 0;", MISPLACED, 6);
        taken("lane 0 1;", 1);
        b.due("one lane", Check.told("lane 0 1;").rule(1), 1);
        faulty("lane 9 0;", NO_NODE, 9);
        taken("lane 9 0;nodes 10;", 2);
        faulty("lane 10 0;", OUT_OF_BOUNDS, 5);
        faulty("lane 0 10;", OUT_OF_BOUNDS, 7);
        HuntedScent x = Check.told("nodes 10;lane 9 8 7 6 5 4 3 2 1 0;");
        b.due("ten nodes: nine lanes", x.rule(1), 9);
        b.due("the first and the last are not joined", x.lanes(9), 1 << 8);
        String most = "nodes 9;lane 0 1 2 3 4 5 6 7 8 0 2 4 6 8 1 3 5 7 0 4 8 3 7 2 6 1 5 0 3 6 0;lane 1 4 7 1;lane 2 5 8 2;";
        x = Check.told(most);
        b.due("nine nodes, all joined", x.rule(1), 36);
        for (int i = 0; i < 9; i++) {
            b.due("lanes(" + i + ")", x.lanes(i), 511 & ~(1 << i));
        }
        x = Check.told(most.replace("nodes 9", "nodes 10") + "lane 0 9 1;lane 2 9 3;lane 4 9 5;lane 6 9 7;lane 8 9;");
        b.due("ten nodes, all joined", x.rule(1), 45);
    }

    private void smelts() {
        b.says(4, "smelt: a TURN (0 to 5), a NODE, how strong (0 to 18).");
        taken("smelt 0 0 0;", 1);
        taken("smelt 5 4 18;", 1);
        faulty("smelt 6 0 0;", OUT_OF_BOUNDS, 6);
        faulty("smelt 0 10 0;", OUT_OF_BOUNDS, 8);
        faulty("smelt 0 0 19;", OUT_OF_BOUNDS, 10);
        faulty("smelt 99 0 0;", OUT_OF_BOUNDS, 6);
        faulty("smelt 0 0 99;", OUT_OF_BOUNDS, 10);
        b.due("turn 5, 18 strong", Check.told("start 0;rest;smelt 5 0 18;").ways(5), 1);
        b.due("turn 0, 0 strong", Check.told("start 0;smelt 0 1 0;").ways(0), 1);
    }

    private void order() {
        b.says(4, "FAULTS, the first met as it is read (a TOKEN is read when the one before has been taken):");
        faulty("foo .", MISPLACED, 0);
        faulty("foo 100", MISPLACED, 0);
        faulty("rest;rest.", TWICE, 5);
        faulty("nodes 5;nodes 100", TWICE, 8);
        faulty("start 1;start .", TWICE, 8);
        faulty("nodes 1.", OUT_OF_BOUNDS, 6);
        faulty("nodes 11 100;", OUT_OF_BOUNDS, 6);
        faulty("start 10.", OUT_OF_BOUNDS, 6);
        faulty("lane 10 .", OUT_OF_BOUNDS, 5);
        faulty("lane 0 0 .", TWICE, 7);
        faulty("lane 0 0 10;", TWICE, 7);
        faulty("lane 0 10 0;", OUT_OF_BOUNDS, 7);
        faulty("lane 0 1 0.", TWICE, 9);
        faulty("water 3;water 3.", TWICE, 14);
        faulty("hole 3;hole 3 100", TWICE, 12);
        faulty("smelt 6 10 19;", OUT_OF_BOUNDS, 6);
        faulty("smelt 0 10 19;", OUT_OF_BOUNDS, 8);
        faulty("smelt 0 0 19.", OUT_OF_BOUNDS, 10);
        faulty(ONE_SMELT.repeat(10) + "smelt.", TOO_MANY, 120);
        faulty(ONE_SMELT.repeat(10) + "smelt 6", TOO_MANY, 120);
        faulty("start 9;.", NO_TOKEN, 8);
        faulty("start 9;rest", MISPLACED, 12);
        faulty("start 9;nodes 11;", OUT_OF_BOUNDS, 14);
        faulty("start 9;rest;rest;", TWICE, 13);
        faulty("smelt 0 9 0;".repeat(11), TOO_MANY, 120);
        faulty(". foo", NO_TOKEN, 0);
        for (String line : LINES) {
            String[] tokens = line.split(" ");
            StringBuilder some = new StringBuilder();
            for (String token : tokens) {
                faulty(some + ".;.rest;", NO_TOKEN, some.length());
                faulty(some + "123;rest;", NO_TOKEN, some.length());
                some.append(token).append(' ');
            }
        }
    }

    private void noToken() {
        b.says(4, "1 no TOKEN, a NUMBER that is too long (its first byte).");
        faulty("rest;.", NO_TOKEN, 5);
        faulty("rest;  .", NO_TOKEN, 7);
        faulty("rest;..", NO_TOKEN, 5);
        faulty("Rest;", NO_TOKEN, 0);
        faulty("reSt;", MISPLACED, 0);
        faulty("rest:", NO_TOKEN, 4);
        faulty("rest<", NO_TOKEN, 4);
        faulty("start /;", NO_TOKEN, 6);
        faulty("start -1;", NO_TOKEN, 6);
        faulty("start 100;", NO_TOKEN, 6);
        faulty("start  0000;", NO_TOKEN, 7);
        faulty("start 1" + "0".repeat(313), NO_TOKEN, 6);
        faulty("123;", NO_TOKEN, 0);
        faulty("rest 123;", NO_TOKEN, 5);
    }

    private void misplaced() {
        b.says(4, "2 a TOKEN that can not stand there (a NAME that begins no line; or the end: the length).");
        String[] names = {"nodes", "rest", "start", "lane", "water", "hole", "smelt"};
        for (String name : names) {
            faulty(name.substring(1) + " 1;", MISPLACED, 0);
            faulty(name.substring(0, name.length() - 1) + " 1;", MISPLACED, 0);
            faulty(name + "s 1;", MISPLACED, 0);
            faulty(name.substring(0, name.length() - 1) + "z 1;", MISPLACED, 0);
            faulty("a" + name + " 1;", MISPLACED, 0);
            faulty("a" + name.substring(1) + " 1;", MISPLACED, 0);
            faulty(name, MISPLACED, name.length());
            faulty("  " + name + "  ", MISPLACED, name.length() + 4);
        }
        faulty(";", MISPLACED, 0);
        faulty("rest;;", MISPLACED, 5);
        faulty("12;", MISPLACED, 0);
        faulty("a".repeat(320), MISPLACED, 0);
        faulty("start" + " ".repeat(315), MISPLACED, 320);
        faulty(" ".repeat(315) + "start", MISPLACED, 320);
    }

    private void bounds(String ahead, String behind, int low, int high) {
        faulty(ahead + (high + 1) + behind, OUT_OF_BOUNDS, ahead.length());
        faulty(ahead + "99" + behind, OUT_OF_BOUNDS, ahead.length());
        for (int n = low; n <= high; n++) {
            taken(ahead + n + behind, 2);
        }
        for (int n = 0; n < low; n++) {
            faulty(ahead + n + behind, OUT_OF_BOUNDS, ahead.length());
            faulty(ahead + "0" + n + behind, OUT_OF_BOUNDS, ahead.length());
        }
    }

    private void outOfBounds() {
        b.says(4, "3 a NUMBER out of its bounds.");
        bounds("nodes ", ";rest;", 2, 10);
        bounds("start ", ";nodes 10;", 0, 9);
        bounds("water ", ";nodes 10;", 0, 9);
        bounds("hole ", ";nodes 10;", 0, 9);
        bounds("smelt ", " 0 0;rest;", 0, 5);
        bounds("smelt 0 ", " 0;nodes 10;", 0, 9);
        bounds("smelt 0 0 ", ";rest;", 0, 18);
        for (int n = 1; n < 10; n++) {
            taken("lane 0 " + n + ";nodes 10;", 2);
            taken("lane " + n + " 0;nodes 10;", 2);
        }
        faulty("lane 0 1 10;", OUT_OF_BOUNDS, 9);
        faulty("lane 0 1 2 99;", OUT_OF_BOUNDS, 11);
    }

    private void twice() {
        b.says(4, "4 nodes, rest, start for the second time (its NAME), a NODE of a lane that is the one ahead of it, "
            + "or is joined to it already, a NODE that is water, a hole already (it).");
        faulty("nodes 5;nodes 5;", TWICE, 8);
        faulty("rest;rest;", TWICE, 5);
        faulty("start 1;start 2;", TWICE, 8);
        taken("rest;nodes 5;start 1;", 3);
        for (int i = 0; i < 10; i++) {
            faulty("nodes 10;lane " + i + " " + i + ";", TWICE, 16);
            faulty("nodes 10;water " + i + ";water " + i + ";", TWICE, 23);
            faulty("nodes 10;hole " + i + ";hole " + i + ";", TWICE, 21);
            taken("nodes 10;hole " + i + ";water " + i + ";start " + i + ";smelt 0 " + i + " 0;smelt 0 " + i + " 0;", 6);
        }
        faulty("lane 0 1 1;", TWICE, 9);
        faulty("lane 0 1 0;", TWICE, 9);
        faulty("lane 0 1;lane 0 1;", TWICE, 16);
        faulty("lane 0 1;lane 1 0;", TWICE, 16);
        faulty("lane 0 1 2 0 1;", TWICE, 13);
        taken("lane 0 1 2 0;", 1);
        taken("lane 0 1;lane 2 1;lane 0 2;", 3);
        HuntedScent x = Check.told("nodes 2;lane 0 1;rest;start 1;water 1;hole 1;");
        Check.type(x, "nodes 2;lane 0 1;rest;start 1;water 1;hole 1;");
        b.due("told by another text it is no second time", x.text(), 6);
    }

    private void tooMany() {
        b.says(4, "5 the 11th smelt (its NAME).");
        taken(ONE_SMELT.repeat(9), 9);
        taken(ONE_SMELT.repeat(10), 10);
        b.due("ten came", Check.told(ONE_SMELT.repeat(10)).count(0), 10);
        faulty(ONE_SMELT.repeat(11), TOO_MANY, 120);
        faulty(ONE_SMELT.repeat(10) + "rest; smelt 0 0 0;", TOO_MANY, 126);
        faulty(ONE_SMELT.repeat(10) + "smelt", TOO_MANY, 120);
        HuntedScent x = Check.told(ONE_SMELT.repeat(10));
        Check.type(x, ONE_SMELT.repeat(10));
        b.due("ten of another text", x.text(), 10);
    }

    private void noSuchNode() {
        b.says(4, "Behind all (the length): 6 a NODE that there is not.");
        String[] names = {"start 9;", "lane 9 0;", "lane 0 9;", "lane 0 1 9;", "water 9;", "hole 9;", "smelt 0 9 0;"};
        for (String line : names) {
            for (int nodes = 2; nodes <= 10; nodes++) {
                String last = line.replace("9", "" + (nodes - 1));
                String ahead = "nodes " + nodes + ";", behind = " " + ahead;
                if (nodes > 2) {
                    taken(ahead + last, 2);
                    taken(last + behind, 2);
                }
                if (nodes < 10) {
                    String beyond = line.replace("9", "" + nodes);
                    faulty(ahead + beyond, NO_NODE, (ahead + beyond).length());
                    faulty(beyond + behind, NO_NODE, (beyond + behind).length());
                    faulty(beyond + behind + "  ", NO_NODE, (beyond + behind).length() + 2);
                }
            }
            String sixth = line.replace("9", "5");
            faulty(sixth, NO_NODE, sixth.length());
            taken(line.replace("9", "4"), 1);
        }
        faulty("start 5;" + " ".repeat(312), NO_NODE, 320);
        taken("nodes 2;start 1;lane 1 0;water 1;hole 1;smelt 0 1 0;", 6);
    }
}
