/** Promises 4 and 5, firstError and load: texts of many kinds. */
public final class InputTest {
    private static final Check CHECK = new Check();

    public static void main(String[] args) {
        syntaxErrors();
        inputsThatLoad();
        inputsThatDoNotLoad();
        failedLoadChangesNothing();
        CHECK.finish();
    }

    private static void syntaxErrors() {
        firstError("", 0);
        firstError("1", 0);
        firstError("9", 0);
        firstError(":", 0);
        firstError("2", 1);
        firstError("8", 1);
        firstError("3;", 1);
        firstError("33", 1);
        firstError("3:", 2);
        firstError("3:3", 2);
        firstError("3:2", 3);
        firstError("3:,", 2);
        firstError("3:/", 2);
        firstError("3::", 2);
        firstError("3:03", 3);
        firstError("3:00", 3);
        firstError("3:0,", 3);
        firstError("3:0/", 3);
        firstError("3:01;", 4);
        firstError("3:011", 4);
        firstError("3:01,", 5);
        firstError("3:01,01", 6);
        firstError("3:01,10", 6);
        firstError("3:01,12,10", 9);
        firstError("3:01,12,21", 9);
        firstError("3:01,12,20,", 11);
        firstError("3:01,12,20,0", 12);
        firstError("3:01,12,20,02", 12);
        firstError("2:01,0", 6);
        firstError("2:01,01", 6);
        firstError("8:07,70", 6);
        firstError("8:78", 3);
        firstError("8:8", 2);
        firstError("1:01,12", 0);
        firstError("9;99;99", 0);
        firstError("4:44,55", 2);
        firstError("4:01 23", 4);
        firstError("4:01,12,23,30,02,13", 19);
        firstError("4:01,12,23,30,02,31,1", 21);
        firstError(Routers.CUBE, 37);
        firstError(Routers.CUBE + ",", 37);
        firstError(Routers.CUBE + ",02", 37);
        firstError(Routers.CUBE + "0", 37);
        firstError(Routers.CUBE.substring(0, 35) + ",", 35);
        firstError(Routers.CUBE.substring(0, 36) + "2", 36);
    }

    private static void firstError(String text, int want) {
        RotorRouter x = Routers.typed(text);
        CHECK.due("firstError() of " + text, x.firstError(), want);
        CHECK.due("firstError() again of " + text, x.firstError(), want);
        CHECK.due("clearInput() of " + text, x.clearInput(), text.length());
    }

    private static void inputsThatLoad() {
        loads("2:01", 1);
        loads("2:10", 1);
        loads("3:01,12", 2);
        loads("3:12,02", 2);
        loads("4:23,12,01", 3);
        loads("4:01,12,23,30,02,13", 6);
        loads("8:07,17,27,37,47,57,67", 7);
        loads("8:67,56,45,34,23,12,01", 7);
        loads("6:01,02,03,04,05,12,13,14,15,23,24,25", 12);
        loads(Routers.CUBE, 12);
    }

    private static void loads(String text, int links) {
        RotorRouter x = Routers.typed(text);
        CHECK.due("load() of " + text, x.load(), text.charAt(0) - '0');
        CHECK.due("linkCount() of " + text, x.linkCount(), links);
        CHECK.due("clearInput() after load() of " + text, x.clearInput(), 0);
    }

    private static void inputsThatDoNotLoad() {
        String[] texts = {
            "", "2", "2:", "2:0", "2:01,", "2:01,0", "2:01,01", "1:01", "9:01", "2;01", "2:02", "2:00",
            "3:01", "3:12", "3:02", "4:01,23", "4:12,23,31", "5:01,12,20,34", "8:01,12,23,34,45,56",
            "6:01,02,03,04,12,13,14,23,24,34", "3:01,12,", "3:01,12,0", Routers.CUBE + ",", Routers.CUBE + ",02",
        };
        for (String text : texts) {
            RotorRouter x = Routers.typed(text);
            CHECK.due("load() of " + text, x.load(), RotorRouter.INVALID_INPUT);
            CHECK.due("linkCount() of " + text, x.linkCount(), 0);
            CHECK.due("clearInput() of " + text, x.clearInput(), text.length());
        }
    }

    private static void failedLoadChangesNothing() {
        RotorRouter x = Routers.loaded("3:01,12");
        x.addWalker(0);
        x.step(0, 3);
        x.snapshot();
        x.step(0, 2);
        Routers.type(x, "4:01,23");
        long digest = x.digest();
        CHECK.due("load() of two parts", x.load(), RotorRouter.INVALID_INPUT);
        CHECK.due("digest() after it", x.digest(), digest);
        CHECK.due("linkCount() after it", x.linkCount(), 2);
        CHECK.due("degree(3) after it", x.degree(3), RotorRouter.NO_SUCH_NODE);
        CHECK.due("restore() after it", x.restore(), 1);
        CHECK.due("position(0) after it", x.position(0), 1);
        CHECK.due("firstError() after it", x.firstError(), 7);
        Routers.type(x, ",12");
        CHECK.due("load() of the whole", x.load(), 4);
    }
}
