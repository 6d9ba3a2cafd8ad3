/** Promises 4 to 10. */
public final class SheetTest {
    public static void main(String[] args) {
        Checks checks = new Checks();
        layOut(checks);
        layMostLinks(checks);
        layNone(checks);
        at(checks);
        add(checks);
        take(checks);
        link(checks);
        unlink(checks);
        mend(checks);
        mendTellsOnlyWhatCameBack(checks);
        checks.finish();
    }

    private static void layOut(Checks checks) {
        RingWeaves x = Checks.withWeave("ring a;ring b;link a b 0 0 over;link b a 1 0 over;link a a 0 1 under;");
        checks.due("lay(3, 2)", x.lay(3, 2), 12);
        checks.due("count(1)", x.count(1), 6 + 4 + 3);
        checks.due("over(0, 1)", x.over(0, 1), 1);
        checks.due("over(1, 2)", x.over(1, 2), 1);
        checks.due("over(0, 6)", x.over(0, 6), -1);
        checks.due("over(5, 6)", x.over(5, 6), 0);
        checks.due("over(1, 7)", x.over(1, 7), 0);
        x.add();
        x.link(12, 0);
        x.take(3);
        checks.due("lay(2, 1)", x.lay(2, 1), 4);
        checks.due("count(0)", x.count(0), 4);
        checks.due("count(8)", x.count(8), 4);
        checks.due("count(1)", x.count(1), 3);
        checks.due("count(12)", x.count(12), 0);
        checks.dueLookThrows(x, 4, 0);
        // What lies behind the smaller sheet must not come back with rings put in.
        checks.due("add()", x.add(), 4);
        checks.dueLook(x, 4, 1, 0);
        checks.due("lay(12, 10)", x.lay(12, 10), 240);
        checks.due("count(0)", x.count(0), 240);
    }

    private static void layMostLinks(Checks checks) {
        StringBuilder text = new StringBuilder("ring a;");
        int links = 0;
        for (int i = 1; i <= 24; i++) {
            int right = i % 5;
            int down = i / 5;
            text.append("link a a ").append(right).append(' ').append(down).append(i % 2 == 0 ? " over;" : " under;");
            links += (12 - right) * (12 - down);
        }
        RingWeaves x = Checks.withWeave(text.toString());
        checks.due("count(10)", x.count(10), 24);
        checks.due("lay(12, 12)", x.lay(12, 12), 144);
        checks.due("count(1)", x.count(1), links);
        checks.due("count(3)", x.count(3), 4 * 4);
        checks.dueLook(x, 65, 1, 48);
        checks.due("over of the last link", x.over(0, 4 * 12 + 4), 1);
        checks.due("take(65)", x.take(65), 48);
        checks.due("mend()", x.mend(), 1);
        checks.due("count(1)", x.count(1), links);
    }

    private static void layNone(Checks checks) {
        RingWeaves x = Checks.laid("ring a;ring b;", 2, 2);
        int[] wrong = {0, 13, -1, Integer.MIN_VALUE, Integer.MAX_VALUE, 65536, 1 << 30};
        for (int i = 0; i < wrong.length; i++) {
            checks.due("lay(" + wrong[i] + ", 1)", x.lay(wrong[i], 1), -1);
            checks.due("lay(1, " + wrong[i] + ")", x.lay(1, wrong[i]), -1);
        }
        checks.due("lay(11, 11)", x.lay(11, 11), -1);
        checks.due("count(8)", x.count(8), 8);
        checks.due("lay(10, 12)", x.lay(10, 12), 240);
        checks.due("lay(12, 12)", x.lay(12, 12), -1);
        checks.due("count(8)", x.count(8), 240);
        RingWeaves four = Checks.withWeave("ring a;ring b;ring c;ring d;");
        checks.due("lay(5, 12)", four.lay(5, 12), 240);
        checks.due("lay(6, 11)", four.lay(6, 11), -1);
        RingWeaves three = Checks.withWeave("ring a;ring b;ring c;");
        checks.due("lay(10, 8)", three.lay(10, 8), 240);
        checks.due("lay(9, 9)", three.lay(9, 9), -1);
        checks.due("lay(12, 12)", Checks.withWeave("ring a;").lay(12, 12), 144);
    }

    private static void at(Checks checks) {
        RingWeaves x = Checks.laid("ring a;ring b;ring c;", 4, 3);
        int ring = 0;
        for (int row = 0; row < 3; row++) {
            for (int column = 0; column < 4; column++) {
                for (int k = 0; k < 3; k++) {
                    checks.due("at(" + column + ", " + row + ", " + k + ")", x.at(column, row, k), ring);
                    ring++;
                }
            }
        }
        int[] wrong = {-1, 4, Integer.MAX_VALUE, Integer.MIN_VALUE};
        for (int i = 0; i < wrong.length; i++) {
            checks.due("at(" + wrong[i] + ", 0, 0)", x.at(wrong[i], 0, 0), -1);
            checks.due("at(0, " + wrong[i] + ", 0)", x.at(0, wrong[i], 0), -1);
            checks.due("at(0, 0, " + wrong[i] + ")", x.at(0, 0, wrong[i]), -1);
        }
        checks.due("at(0, 3, 0)", x.at(0, 3, 0), -1);
        checks.due("at(0, 0, 3)", x.at(0, 0, 3), -1);
        x.take(4);
        checks.due("at(1, 0, 1) of a taken one", x.at(1, 0, 1), 4);
    }

    private static void add(Checks checks) {
        RingWeaves x = new RingWeaves();
        for (int i = 0; i < 300; i++) {
            checks.due("add()", x.add(), i);
        }
        checks.due("add() to 300", x.add(), -1);
        checks.due("count(8)", x.count(8), 300);
        checks.due("link(299, 0)", x.link(299, 0), true);
        checks.due("at(0, 0, 0)", x.at(0, 0, 0), -1);
        checks.due("take(5)", x.take(5), 0);
        checks.due("add() with one of 300 taken", x.add(), -1);
        RingWeaves sheet = Checks.laid(Checks.MESH, 2, 2);
        sheet.take(3);
        checks.due("add() behind all", sheet.add(), 4);
        checks.dueLook(sheet, 4, 0, 1);
        checks.dueLook(sheet, 4, 1, 0);
        checks.due("count(0)", sheet.count(0), 4);
    }

    private static void take(Checks checks) {
        RingWeaves x = Checks.laid(Checks.MESH, 3, 3);
        checks.due("take(9)", x.take(9), -1);
        checks.due("take(-1)", x.take(-1), -1);
        checks.due("take(300)", x.take(300), -1);
        checks.due("take(MAX)", x.take(Integer.MAX_VALUE), -1);
        checks.due("take(MIN)", x.take(Integer.MIN_VALUE), -1);
        checks.due("take(4)", x.take(4), 4);
        checks.due("take(4)", x.take(4), -1);
        checks.due("take(0)", x.take(0), 2);
        checks.due("take(1)", x.take(1), 1);
        checks.due("count(1)", x.count(1), 5);
        checks.due("count(8)", x.count(8), 9);
        checks.due("count(0)", x.count(0), 6);
        checks.dueLinked(x, 4);
        checks.dueLinked(x, 5, 2, 8);
        x.add();
        x.link(9, 8);
        checks.due("take(9)", x.take(9), 1);
        checks.dueLook(x, 9, 0, 0);
        checks.due("count(8)", x.count(8), 10);
        checks.due("add()", x.add(), 10);
    }

    private static void link(Checks checks) {
        RingWeaves x = Checks.loose(4);
        checks.due("link(1, 0)", x.link(1, 0), true);
        checks.due("link(1, 0)", x.link(1, 0), false);
        checks.due("link(0, 1)", x.link(0, 1), false);
        checks.due("over(1, 0)", x.over(1, 0), 1);
        checks.due("link(2, 2)", x.link(2, 2), false);
        checks.due("link(2, 4)", x.link(2, 4), false);
        checks.due("link(4, 2)", x.link(4, 2), false);
        checks.due("link(-1, 2)", x.link(-1, 2), false);
        checks.due("link(2, MIN)", x.link(2, Integer.MIN_VALUE), false);
        checks.due("link(MAX, 2)", x.link(Integer.MAX_VALUE, 2), false);
        x.take(3);
        checks.due("link(3, 2)", x.link(3, 2), false);
        checks.due("link(2, 3)", x.link(2, 3), false);
        checks.due("count(1)", x.count(1), 1);
    }

    private static void unlink(Checks checks) {
        RingWeaves x = Checks.laid(Checks.CHAIN, 4, 1);
        checks.due("unlink(0, 2)", x.unlink(0, 2), false);
        checks.due("unlink(0, 0)", x.unlink(0, 0), false);
        checks.due("unlink(0, 4)", x.unlink(0, 4), false);
        checks.due("unlink(-1, 0)", x.unlink(-1, 0), false);
        checks.due("unlink(MAX, MIN)", x.unlink(Integer.MAX_VALUE, Integer.MIN_VALUE), false);
        checks.due("unlink(1, 0)", x.unlink(1, 0), true);
        checks.due("unlink(1, 0)", x.unlink(1, 0), false);
        checks.due("over(0, 1)", x.over(0, 1), 0);
        checks.due("over(1, 0)", x.over(1, 0), 0);
        checks.due("link(1, 0)", x.link(1, 0), true);
        checks.due("over(0, 1)", x.over(0, 1), -1);
        checks.due("unlink(1, 2)", x.unlink(1, 2), true);
        x.take(3);
        checks.due("unlink(2, 3)", x.unlink(2, 3), false);
        checks.due("count(1)", x.count(1), 1);
    }

    private static void mend(Checks checks) {
        RingWeaves x = Checks.laid(Checks.MESH, 3, 3);
        checks.due("mend() with none worn", x.mend(), 0);
        x.take(3);
        x.take(4);
        x.take(5);
        checks.due("count(12)", x.count(12), 3);
        checks.due("count(1)", x.count(1), 4);
        checks.due("mend()", x.mend(), 3);
        checks.due("count(12)", x.count(12), 0);
        checks.due("count(1)", x.count(1), 12);
        checks.due("over(3, 4)", x.over(3, 4), 1);
        checks.due("over(5, 4)", x.over(5, 4), -1);
        checks.due("over(1, 4)", x.over(1, 4), -1);
        checks.due("over(4, 7)", x.over(4, 7), -1);
        checks.due("count(3)", x.count(3), 1);
        checks.due("mend()", x.mend(), 0);
    }

    private static void mendTellsOnlyWhatCameBack(Checks checks) {
        RingWeaves x = Checks.laid(Checks.CHAIN, 6, 1);
        x.add();
        x.add();
        x.link(6, 1);
        x.link(7, 2);
        x.unlink(0, 1);
        x.link(1, 0);
        x.unlink(2, 3);
        x.unlink(4, 5);
        x.take(3);
        x.take(7);
        checks.due("mend()", x.mend(), 1);
        checks.due("over(2, 3) is told again", x.over(2, 3), 1);
        checks.due("over(3, 4)", x.over(3, 4), 1);
        checks.due("over(4, 5) stays unlinked", x.over(4, 5), 0);
        checks.due("over(1, 0) stays turned", x.over(1, 0), 1);
        checks.due("over(6, 1) stays", x.over(6, 1), 1);
        checks.dueLook(x, 7, 0, 0);
        checks.dueLinked(x, 2, 1, 3);
    }
}
