/** The sentences of "Text" that name a bound, a test each. */
final class TextEdgesTest {
    private static final String[] NAMES = {"cpu", "mem", "net", "disk"};

    public static void main(String[] args) {
        textHasSixtyBytes();
        fullTextIsRead();
        emptyTextIsAVector();
        onlyTheFourNamesAreNames();
        namesStandOnce();
        resourcesWithoutNamesHaveNoUnits();
        numbersHaveOneOrTwoDigits();
        digitsHaveNoGap();
        digitsAreTenBytes();
        zerosCanStandInFront();
        blanksStandBeforeAndAfter();
        onlyByte32IsABlank();
        noByteCanStandForAnother();
        faultOfATextThatEndsTooEarly();
        faultOfLettersIsTheirFirst();
        lettersAreThoseFromAToZ();
        faultOfANameThatStoodIsItsFirst();
        textCanEndWithinLetters();
        firstOfSeveralFaultsIsTold();
        Check.end("TextEdgesTest");
    }

    private static void fault(String text, int want) {
        LimitBank bank = new LimitBank();
        bank.addTenant(1);
        Check.type(bank, text);
        Check.due("fault() of \"" + text + "\"", bank.fault(), want);
        if (want != LimitBank.NONE) {
            Check.due("demand(0) of \"" + text + "\"", bank.demand(0), LimitBank.STATE);
        }
    }

    /** The units that a text without a fault is read as. */
    private static void units(String text, int... want) {
        LimitBank bank = new LimitBank();
        bank.addTenant(1);
        Check.type(bank, text);
        Check.due("fault() of \"" + text + "\"", bank.fault(), LimitBank.NONE);
        Check.due("demand(0) of \"" + text + "\"", bank.demand(0), 1);
        for (int r = 0; r < 4; r++) {
            Check.due("units " + r + " of \"" + text + "\"", bank.demanded(0, r), want[r]);
        }
    }

    private static String blanks(int n) {
        return " ".repeat(n);
    }

    /** "There is a text of at most 60 bytes" */
    private static void textHasSixtyBytes() {
        LimitBank bank = new LimitBank();
        for (int i = 1; i <= 60; i++) {
            Check.due("byte " + i, bank.type(32), i);
        }
        Check.due("byte 61", bank.type(32), LimitBank.FULL);
        Check.due("byte 61 of another kind", bank.type('c'), LimitBank.FULL);
        Check.due("the length", bank.count(9), 60);
        Check.due("fault()", bank.fault(), LimitBank.NONE);
        Check.due("clearText()", bank.clearText(), 60);
        Check.due("byte 1", bank.type(32), 1);
    }

    /** The same sentence: the last byte of 60 counts as any other one. */
    private static void fullTextIsRead() {
        units(blanks(55) + "mem12", 0, 12, 0, 0);
        units("cpu 11" + blanks(14) + "mem 22" + blanks(14) + "net 33" + blanks(7) + "disk 44",
                11, 22, 33, 44);
        fault(blanks(54) + "mem123", 59);
        fault(blanks(59) + "x", 59);
        fault(blanks(57) + "cpu", 60);
        fault(blanks(56) + "cpu ", 60);
        fault(blanks(57) + "dis", 57);
        fault("cpu1" + blanks(53) + "cpu", 57);
    }

    /** "vector = { name number }": none of them is a vector, too. */
    private static void emptyTextIsAVector() {
        for (int length : new int[] {0, 1, 59, 60}) {
            fault(blanks(length), LimitBank.NONE);
        }
        LimitBank bank = new LimitBank();
        Check.due("fault() of a new bank", bank.fault(), LimitBank.NONE);
    }

    /** "name = "cpu" | "mem" | "net" | "disk"": nothing shorter, longer or alike. */
    private static void onlyTheFourNamesAreNames() {
        for (String name : NAMES) {
            fault(name + "1", LimitBank.NONE);
            fault(name.substring(1) + "1", 0);
            fault(name.substring(0, name.length() - 1) + "1", 0);
            fault(name + "s1", 0);
            fault("s" + name + "1", 0);
            fault(name + name + "1", 0);
            for (int i = 0; i < name.length(); i++) {
                fault(name.substring(0, i) + "z" + name.substring(i + 1) + "1", 0);
            }
        }
        fault("cpum1", 0);
        fault("memnet1", 0);
        fault("disc1", 0);
    }

    /** "A name stands once at most": all four can stand, in any order. */
    private static void namesStandOnce() {
        units("disk4net3mem2cpu1", 1, 2, 3, 4);
        units("net3disk4cpu1mem2", 1, 2, 3, 4);
        for (String name : NAMES) {
            fault(name + "1" + name + "1", name.length() + 1);
            fault(name + "0 " + name + "1", name.length() + 2);
            fault("mem1net1cpu1disk1 " + name + "1", 18);
        }
        fault("cpu1mem1net1mem1", 12);
    }

    /** "resources without a name have 0 units": also if a text before named them. */
    private static void resourcesWithoutNamesHaveNoUnits() {
        units("cpu 5", 5, 0, 0, 0);
        units("disk 5", 0, 0, 0, 5);
        LimitBank bank = new LimitBank();
        bank.addTenant(1);
        Check.demand(bank, 0, "cpu 1 mem 2 net 3 disk 4", 1);
        Check.demand(bank, 0, "net 9", 2);
        int[] want = {0, 0, 9, 0};
        for (int r = 0; r < 4; r++) {
            Check.due("units " + r + " of the text behind", bank.demanded(1, r), want[r]);
        }
        Check.type(bank, "");
        Check.due("demand(0) of the empty text", bank.demand(0), LimitBank.STATE);
    }

    /** "A number has one or two digits ..., as many as there are (... a third digit cannot)." */
    private static void numbersHaveOneOrTwoDigits() {
        units("cpu 1", 1, 0, 0, 0);
        units("cpu 9mem 8", 9, 8, 0, 0);
        units("cpu 10", 10, 0, 0, 0);
        units("cpu 99mem 98", 99, 98, 0, 0);
        fault("cpu 100", 6);
        fault("cpu 999", 6);
        fault("cpu 1000", 6);
        fault("cpu 100mem 1", 6);
        fault("cpu mem 1", 4);
        fault("cpumem 1", 0);
    }

    /** "without a gap" */
    private static void digitsHaveNoGap() {
        fault("cpu 1 2", 6);
        fault("cpu 1 2mem 3", 6);
        fault("cpu 12 3", 7);
        fault("cpu 1   2", 8);
        fault("cpu1 0", 5);
    }

    /** The same sentence: digits are the bytes from '0' to '9'. */
    private static void digitsAreTenBytes() {
        for (int digit = 0; digit <= 9; digit++) {
            units("cpu 1 mem " + digit, 1, digit, 0, 0);
            units("cpu 1 mem " + digit + "0", 1, 10 * digit, 0, 0);
            units("cpu 1 mem 1" + digit, 1, 10 + digit, 0, 0);
        }
        fault("cpu " + (char) ('0' - 1), 4);
        fault("cpu " + (char) ('9' + 1), 4);
        fault("cpu 1" + (char) ('0' - 1), 5);
        fault("cpu 1" + (char) ('9' + 1), 5);
    }

    /** "zeros in front can stand" */
    private static void zerosCanStandInFront() {
        units("cpu 07", 7, 0, 0, 0);
        units("cpu 00 mem 01", 0, 1, 0, 0);
        fault("cpu 00", LimitBank.NONE);
        fault("cpu 007", 6);
        fault("cpu 000", 6);
    }

    /** "Blanks (byte 32) can stand before and after names and numbers.": any number, also none. */
    private static void blanksStandBeforeAndAfter() {
        units("cpu1mem2net3disk4", 1, 2, 3, 4);
        units(" cpu 1 mem 2 net 3 disk 4 ", 1, 2, 3, 4);
        units("     cpu     1     mem     2     ", 1, 2, 0, 0);
        fault("c pu 1", 0);
        fault("cp u 1", 0);
        fault("cpu 1 di sk 2", 6);
    }

    /** The same sentence: no other byte is a blank. */
    private static void onlyByte32IsABlank() {
        for (int letter = 0; letter <= 127; letter++) {
            char sign = (char) letter;
            if (letter != 32) {
                boolean letters = letter >= 'a' && letter <= 'z';
                boolean digit = letter >= '0' && letter <= '9';
                fault(sign + "cpu1", 0);
                fault("cpu" + sign + "1", digit ? LimitBank.NONE : letters ? 0 : 3);
                fault("cpu1" + sign, digit ? LimitBank.NONE : 4);
            }
        }
    }

    /** "The fault of a text is the index, from 0, of the first byte that cannot stand": any. */
    private static void noByteCanStandForAnother() {
        for (int letter = 0; letter <= 127; letter++) {
            boolean letters = letter >= 'a' && letter <= 'z';
            boolean digit = letter >= '0' && letter <= '9';
            fault("" + (char) letter, letter == 32 ? LimitBank.NONE : 0);
            fault("cpu " + (char) letter, letter == 32 ? 5 : digit ? LimitBank.NONE : 4);
            fault("cpu 12" + (char) letter, letter == 32 ? LimitBank.NONE : 6);
            fault("cpu" + (char) letter, letter == 32 ? 4 : digit ? LimitBank.NONE
                    : letters ? 0 : 3);
        }
    }

    /** "or the length of the text if it ends too early" */
    private static void faultOfATextThatEndsTooEarly() {
        for (String name : NAMES) {
            fault(name, name.length());
            fault(name + " ", name.length() + 1);
            fault("   " + name + "   ", name.length() + 6);
        }
        fault("cpu 1 mem", 9);
        fault("cpu1mem2net3disk", 16);
    }

    /** "for letters from a to z (as many ...) that are none of the names, ... the first of them" */
    private static void faultOfLettersIsTheirFirst() {
        fault("memo 1", 0);
        fault("  memo 1", 2);
        fault("cpu 1 memo 1", 6);
        fault("cpu1memo1", 4);
        fault("net1cpumem1", 4);
        fault("azaz", 0);
        fault("mem 1 z", 6);
        fault("mem 1 a", 6);
    }

    /** The same sentence: the bytes beside a and z are no letters, so a name ends before them. */
    private static void lettersAreThoseFromAToZ() {
        fault("cpu`", 3);
        fault("cpu{", 3);
        fault("cpua", 0);
        fault("cpuz", 0);
        fault("cpuA", 3);
        fault("cpuZ", 3);
        fault("CPU", 0);
        fault("dISK 1", 0);
    }

    /** "or one that stood already, that of the first of them" */
    private static void faultOfANameThatStoodIsItsFirst() {
        for (String name : NAMES) {
            fault("  " + name + " 1 " + name + " 1", name.length() + 5);
            fault(name + "1" + name + "x", name.length() + 1);
        }
    }

    /** "(also if the text ends within them)" */
    private static void textCanEndWithinLetters() {
        for (String name : NAMES) {
            for (int length = 1; length < name.length(); length++) {
                fault(name.substring(0, length), 0);
                fault("   " + name.substring(0, length), 3);
            }
            for (int length = 1; length <= name.length(); length++) {
                fault(name + "1 " + name.substring(0, length), name.length() + 2);
            }
        }
    }

    /** "the first byte": what stands behind it does not count. */
    private static void firstOfSeveralFaultsIsTold() {
        fault("cpu ! mem ?", 4);
        fault("cpu 123 x", 6);
        fault("x cpu 123", 0);
        fault("cpu 1 cpu", 6);
        fault("?cpu", 0);
    }
}
