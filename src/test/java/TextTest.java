/** Promises 2 (type), 3 (clearText) and 4 (fault). */
final class TextTest {
    public static void main(String[] args) {
        typing();
        clearing();
        noFaults();
        faultsOfNames();
        faultsOfNumbers();
        endsTooEarly();
        textIsNoState();
        Check.end("TextTest");
    }

    private static void typing() {
        LimitBank bank = new LimitBank();
        Check.due("type(-1)", bank.type(-1), LimitBank.BAD);
        Check.due("type(128)", bank.type(128), LimitBank.BAD);
        Check.due("type(least)", bank.type(Integer.MIN_VALUE), LimitBank.BAD);
        Check.due("type(greatest)", bank.type(Integer.MAX_VALUE), LimitBank.BAD);
        Check.due("count(9)", bank.count(9), 0);
        Check.due("type(0)", bank.type(0), 1);
        Check.due("type(127)", bank.type(127), 2);
        for (int i = 3; i <= 60; i++) {
            Check.due("type(32) as byte " + i, bank.type(32), i);
        }
        Check.due("type(32) in a full text", bank.type(32), LimitBank.FULL);
        Check.due("type(128) in a full text", bank.type(128), LimitBank.BAD);
        Check.due("count(9) of a full text", bank.count(9), 60);
    }

    private static void clearing() {
        LimitBank bank = new LimitBank();
        Check.due("clearText() of none", bank.clearText(), 0);
        Check.type(bank, "cpu 1");
        Check.due("clearText()", bank.clearText(), 5);
        Check.due("count(9)", bank.count(9), 0);
        Check.due("clearText() again", bank.clearText(), 0);
        Check.type(bank, "mem");
        Check.due("fault() of what came behind", bank.fault(), 3);
    }

    private static void fault(String text, int want) {
        LimitBank bank = new LimitBank();
        Check.type(bank, text);
        Check.due("fault() of \"" + text + "\"", bank.fault(), want);
        Check.due("fault() of \"" + text + "\" again", bank.fault(), want);
    }

    private static void noFaults() {
        String[] texts = {"", " ", "    ", "cpu1", "cpu 1", " cpu  1 ", "cpu 0", "cpu 00", "cpu 07",
            "cpu 99", "cpu1mem2net3disk4", "disk 4 net 3 mem 2 cpu 1", "mem12 cpu9disk 10",
            "   disk   99   net   99   mem   99   cpu   99               "};
        for (String text : texts) {
            fault(text, LimitBank.NONE);
        }
    }

    private static void faultsOfNames() {
        fault("x", 0);
        fault("c", 0);
        fault("xpu 1", 0);
        fault("nem 1", 0);
        fault("met 1", 0);
        fault("dist 1", 0);
        fault("cp", 0);
        fault("  cp", 2);
        fault("cpux", 0);
        fault("cpux 1", 0);
        fault("cpumem 1", 0);
        fault("cpu 1 disks 2", 6);
        fault("cpu 1 dis", 6);
        fault("cpu 1cpu 2", 5);
        fault("cpu 1 mem 2 cpu", 12);
        fault("cpu 1 mem 2 cp", 12);
        fault("cpu1mem2net3disk4cpu5", 17);
        fault("cpu1mem2net3disk4x", 17);
        fault("cpu1mem2net3disk4 5", 18);
        fault("Cpu 1", 0);
        fault("cPu 1", 0);
        fault("CPU 1", 0);
        fault("1", 0);
        fault(" 1", 1);
        fault("\t", 0);
        fault("cpu 1,mem 2", 5);
        fault("cpu 1{", 5);
        fault("cpu 1`", 5);
        fault("\u0000", 0);
        fault("\u007f", 0);
    }

    private static void faultsOfNumbers() {
        fault("cpu x", 4);
        fault("cpu mem 1", 4);
        fault("cpu cpu 1", 4);
        fault("cpu -1", 4);
        fault("cpu /", 4);
        fault("cpu :", 4);
        fault("cpuX", 0 + 3);
        fault("cpu 123", 6);
        fault("cpu 000", 6);
        fault("cpu 1 2", 6);
        fault("cpu 12 3", 7);
        fault("cpu12345mem", 5);
        fault("cpu 1x", 5);
        fault("cpu 1m", 5);
    }

    private static void endsTooEarly() {
        fault("cpu", 3);
        fault("cpu ", 4);
        fault("cpu   ", 6);
        fault("cpu 1 mem", 9);
        fault("cpu 1 mem ", 10);
        fault("cpu1disk", 8);
        String full = "                                                         cpu";
        fault(full, 60);
    }

    private static void textIsNoState() {
        LimitBank bank = new LimitBank();
        bank.addTenant(1);
        Check.type(bank, "cpu 1");
        Check.due("count(8)", bank.count(8), 1);
        bank.demand(0);
        bank.clearText();
        bank.type('n');
        Check.due("count(8) after a demand", bank.count(8), 2);
        Check.due("undo()", bank.undo(), 1);
        Check.due("count(9) after undo", bank.count(9), 1);
        Check.due("fault() after undo", bank.fault(), 0);
    }
}
