/** Promises 4, 14 and 15: what laws say, what a stone costs, what would rise. */
public final class LawTest {
    private static final Check CHECK = new Check();

    public static void main(String[] args) {
        values();
        names();
        bounds();
        namesOfRise();
        wrongInputs();
        CHECK.end();
    }

    private static void value(String law, int due) {
        FieldStones x = new FieldStones();
        CHECK.is("4: " + law, 1, Check.law(x, 0, law));
        CHECK.is("14: " + law, due, x.damage(0, 0, 3));
    }

    private static void values() {
        value("size", 3);
        value("10-3-2", 5);
        value("100/10/5", 2);
        value("17%10%4", 3);
        value("2+3*4", 14);
        value("(2+3)*4", 20);
        value("7/2", 3);
        value("100+(0-7)/2", 97);
        value("100+(0-7)%4", 97);
        value("100+7%(0-4)", 103);
        value("7/0+1", 1);
        value("7%0+1", 1);
        value("if[1,2,3]", 2);
        value("if[0,2,3]", 3);
        value("if[0-1,2,3]", 3);
        value("if[1,if[0,1,2],3]*if[2-2,5,7]", 14);
        value("2*if[1,3,4]+1", 7);
        // 999 to the 4th power is -426416671 by 32 bits.
        value("500+999*999*999*999/999/999", 73);
        value("if[999*999*999*999,1,2]", 2);
        value("500+999*999*999*999%500", 329);
        // 2^31 is less than 0 by 32 bits, and by (0 - 1) it stays what it is.
        value("if[256*256*256*128,1,2]", 2);
        value("if[256*256*256*128/(0-1),1,2]", 2);
        value("5+256*256*256*128%(0-1)", 5);
    }

    private static void names() {
        FieldStones x = Check.field("field 5 3;stone 4 2 1;stone 4 2 2;stone 0 0 3;soil 4 2 77;");
        Check.work(x, "winter;winter;winter;round 4 2;");
        String[] laws = {"size", "soil", "year", "many", "x", "y", "all"};
        int[] due = {6, 77, 3, 2, 4, 2, 3};
        for (int i = 0; i < laws.length; i++) {
            Check.law(x, 0, laws[i]);
            CHECK.is("14: " + laws[i] + ", in a lost cell too", due[i], x.damage(4, 2, 6));
        }
        Check.law(x, 0, "many*100+all");
        Check.work(x, "lift 4 2;");
        CHECK.is("14: many and all without what is on the sledge", 1, x.damage(4, 2, 6));
        CHECK.is("14: of another cell", 101, x.damage(0, 0, 6));
    }

    private static void bounds() {
        FieldStones x = Check.field("stone 0 0 9;");
        Check.law(x, 0, "size*111");
        CHECK.is("14: 999", 999, x.damage(0, 0, 9));
        Check.law(x, 0, "size*112");
        CHECK.is("14: at most 999", 999, x.damage(0, 0, 9));
        Check.law(x, 0, "0-size");
        CHECK.is("14: at least 0", 0, x.damage(0, 0, 9));
        String[] laws = {"0-1", "0", "1", "2", "3", "999"};
        int[] due = {0, 0, 1, 2, 2, 2};
        for (int i = 0; i < laws.length; i++) {
            Check.law(x, 1, laws[i]);
            CHECK.is("15: " + laws[i], due[i], x.rises(1, 1));
        }
    }

    private static void namesOfRise() {
        FieldStones x = Check.field("field 3 3;stone 2 1 1;stone 2 1 9;soil 2 1 2;");
        String[] laws = {"size", "soil", "year", "many", "x", "y", "all"};
        int[] due = {0, 2, 1, 2, 2, 1, 2};
        for (int i = 0; i < laws.length; i++) {
            Check.law(x, 1, laws[i]);
            CHECK.is("15: " + laws[i], due[i], x.rises(2, 1));
        }
        Check.work(x, "winter;round 2 1;");
        CHECK.is("15: 0 in a lost cell", 0, x.rises(2, 1));
        CHECK.is("15: not in another one", 2, x.rises(2, 2));
        Check.law(x, 1, "year-1");
        CHECK.is("15: the year that comes", 1, x.rises(2, 2));
    }

    private static void wrongInputs() {
        FieldStones x = Check.field("field 3 2;");
        CHECK.noCell("14: X", () -> x.damage(3, 0, 1));
        CHECK.noCell("14: Y", () -> x.damage(0, 2, 1));
        CHECK.noCell("14: X", () -> x.damage(-1, 0, 1));
        CHECK.noCell("14: ahead of the size", () -> x.damage(0, -1, 10));
        CHECK.noArgument("14: size 0", () -> x.damage(0, 0, 0));
        CHECK.noArgument("14: size 10", () -> x.damage(2, 1, 10));
        CHECK.noCell("15: X", () -> x.rises(3, 0));
        CHECK.noCell("15: Y", () -> x.rises(0, 2));
        CHECK.noCell("15: X", () -> x.rises(-1, 0));
        CHECK.noCell("15: Y", () -> x.rises(0, -1));
        CHECK.is("35: cells", 8, x.status(0));
        CHECK.is("35: arguments", 2, x.status(2));
    }
}
