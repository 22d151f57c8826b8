/** Promises 16 to 19, and what section 3 says of ways. */
final class EdgesOfWays extends Edges {
    EdgesOfWays(Due d) {
        super(d);
    }

    @Override
    void all() {
        at("Section 3", "REACH of a TOWN: it", this::itself);
        at("Section 3", "LEAD to another one", () -> run("bed(0, 3, 3, 5)").due("reach(3)", 8).due("reach(5)", 32).due("lacks()", 8));
        at("Section 3", "one behind the other", this::oneBehindTheOther);
        at("Section 3", "(as they stand now)", this::asTheyStandNow);
        at("Promise 16", "BAD", this::reachRefused);
        at("Section 3", "how many BEDS at least", this::waysAtLeast);
        at("Section 3", "(0: the same)", this::noWayAtAll);
        at("Promise 17", "NONE: it is not in REACH", this::notInReach);
        at("Promise 17", "BAD", this::wayRefused);
        at("Promise 17", "BAD; NONE", () -> refused(this::run, BAD, "way(8, 0)", "way(0, 8)", "way(-1, -1)", "way(8, 8)"));
        at("Section 3", "are needed at least, so that REACH of each TOWN is all of them", this::lacksAtLeast);
        at("Promise 18", "LACKS", this::lacksOfAll);
        at("Section 3", "how many TOWNS are in REACH of all TOWNS, together, is least", this::missedMost);
        at("Section 3", "MISSED: the BED without which how many TOWNS are in REACH of all TOWNS, together, is least; of several the least", this::missedOfSeveral);
        at("Promise 19", "NONE: there are no BEDS", () -> refused(this::run, NONE, "missed(0)", "missed(1)"));
        at("Promise 19", "BAD", () -> range(this::busy, 0, 1, "missed(#)"));
        at("Promise 19", "BAD; NONE", () -> refused(this::run, BAD, "missed(2)", "missed(-1)"));
    }

    private Run ring() {
        Run x = run();
        for (int i = 0; i < 8; i++) {
            x.does("bed(" + i % 3 + ", " + i + ", " + (i + 1) % 8 + ", " + i + ")");
        }
        return x;
    }

    private void itself() {
        for (int town = 0; town < 8; town++) {
            run().due("reach(" + town + ")", 1 << town);
            run("bed(0, 1, 2, 0)").due("reach(" + town + ")", town == 1 ? 6 : 1 << town);
        }
    }

    private void oneBehindTheOther() {
        Run up = run();
        Run down = run();
        for (int i = 0; i < 7; i++) {
            up.does("bed(0, " + i + ", " + (i + 1) + ", 0)");
            down.does("bed(0, " + (6 - i) + ", " + (7 - i) + ", 0)");
        }
        for (int town = 0; town < 8; town++) {
            up.due("reach(" + town + ")", 256 - (1 << town));
            down.due("reach(" + town + ")", 256 - (1 << town));
        }
        ring().due("reach(0)", 255).due("reach(7)", 255);
        run("bed(4, 0, 1, 2); bed(0, 2, 3, 0)").due("reach(0)", 15).due("reach(1)", 2).due("reach(2)", 12);
    }

    private void asTheyStandNow() {
        still("bed(3, 1, 6, 0); one(1, 0)").due("reach(1)", 2 | 64).due("reach(6)", 64).does("nights(1)").due("reach(1)", 2).due("reach(6)", 2 | 64);
        run("bed(0, 1, 6, 0); set(0, 1, 2)").due("reach(1)", 2).due("reach(2)", 4 | 64);
        // A sawn one leads to both by any night, a double to its town for any number.
        still("bed(4, 1, 6, 7); bed(1, 2, 3, 0); nights(1)").due("reach(1)", 2 | 64 | 128).due("reach(2)", 12);
    }

    private void reachRefused() {
        range(this::busy, 0, 7, "reach(#)");
        range(this::run, 0, 7, "reach(#)");
    }

    private void waysAtLeast() {
        ring().due("way(0, 7)", 7).due("way(7, 0)", 1).due("way(7, 6)", 7).due("way(3, 2)", 7).due("way(0, 1)", 1);
        ring().does("bed(0, 0, 4, 0)").due("way(0, 7)", 4).due("way(0, 4)", 1).due("way(0, 3)", 3);
        ring().does("bed(4, 0, 2, 5)").due("way(0, 7)", 3).due("way(0, 4)", 3).due("way(0, 5)", 1).due("way(7, 6)", 3);
    }

    private void noWayAtAll() {
        for (int town = 0; town < 8; town++) {
            run().due("way(" + town + ", " + town + ")", 0);
            ring().due("way(" + town + ", " + town + ")", 0);
        }
        run("bed(0, 3, 3, 0)").due("way(3, 3)", 0);
    }

    private void notInReach() {
        refused(this::run, NONE, "way(0, 1)", "way(7, 0)");
        run("bed(0, 0, 1, 0)").due("way(0, 1)", 1).due("way(1, 0)", NONE).due("way(0, 2)", NONE);
        run("bed(0, 0, 1, 0); bed(0, 2, 3, 0)").due("way(0, 3)", NONE).due("way(2, 3)", 1);
    }

    private void wayRefused() {
        range(this::ring, 0, 7, "way(#, 0)");
        range(this::ring, 0, 7, "way(0, #)");
    }

    private void lacksAtLeast() {
        run("bed(0, 0, 1, 0)").due("lacks()", 7);
        run("bed(0, 0, 1, 0); bed(0, 1, 0, 0)").due("lacks()", 7);
        // From one to seven, from seven to one: seven ends each.
        Run out = run();
        Run in = run();
        for (int i = 1; i < 8; i++) {
            out.does("bed(0, 0, " + i + ", 0)");
            in.does("bed(0, " + i + ", 0, 0)");
        }
        out.due("lacks()", 7);
        in.due("lacks()", 7);
        // Three begin, one ends, and two that are by themselves.
        run("bed(0, 0, 3, 0); bed(0, 1, 3, 0); bed(0, 2, 3, 0); bed(0, 3, 4, 0); bed(0, 4, 5, 0)").due("lacks()", 5);
        run("bed(4, 5, 4, 3); bed(4, 5, 2, 1); bed(0, 4, 0, 0)").due("lacks()", 6);
        run("bed(0, 0, 1, 0); bed(0, 2, 3, 0); bed(0, 4, 5, 0); bed(0, 6, 7, 0)").due("lacks()", 4);
    }

    private void lacksOfAll() {
        run().due("lacks()", 8);
        ring().due("lacks()", 0);
        ring().does("set(7, 2, 7)").due("lacks()", 1);
        ring().does("set(7, 2, 1)").due("lacks()", 1);
        ring().does("set(7, 2, 7); set(3, 2, 3)").due("lacks()", 2);
        ring().does("bed(0, 3, 5, 0); bed(4, 5, 5, 5)").due("lacks()", 0);
    }

    private void missedMost() {
        ring().due("missed(1)", 8 + 7 + 6 + 5 + 4 + 3 + 2 + 1);
        run("bed(0, 0, 0, 0)").due("missed(0)", 0).due("missed(1)", 8);
        run("bed(0, 0, 0, 0); bed(0, 0, 1, 0)").due("missed(0)", 1).due("missed(1)", 8);
        run("bed(0, 0, 1, 0); bed(0, 1, 2, 0); bed(0, 2, 3, 0)").due("missed(0)", 1).due("missed(1)", 10);
        run("bed(0, 0, 1, 0); bed(4, 2, 3, 4); bed(0, 1, 2, 0)").due("missed(0)", 1).due("missed(1)", 8 + 3);
        run("bed(0, 5, 6, 0); bed(0, 5, 6, 0); bed(0, 6, 7, 0)").due("missed(0)", 2).due("missed(1)", 9);
    }

    private void missedOfSeveral() {
        ring().due("missed(0)", 0);
        run("bed(0, 3, 3, 0); bed(0, 0, 1, 0); bed(0, 4, 5, 0)").due("missed(0)", 1).due("missed(1)", 9);
        run("bed(0, 0, 1, 0); bed(0, 0, 1, 0)").due("missed(0)", 0).due("missed(1)", 9);
        Run ten = run();
        for (int i = 0; i < 9; i++) {
            ten.does("bed(0, 2, 2, 0)");
        }
        ten.does("bed(0, 0, 1, 0)").due("missed(0)", 9).due("missed(1)", 8);
    }
}
