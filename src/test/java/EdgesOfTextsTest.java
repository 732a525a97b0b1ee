/** The edges of the sentences on texts, and of promises 36 to 38. */
public final class EdgesOfTextsTest {
    private EdgesOfTextsTest() {
    }

    /** On a sale in which the text would change something, if it were carried out up to its fault. */
    private static void fault(String sentence, String text, int position) {
        new Run(sentence + " [" + text + "]")
                .does("addLot(0, 1, 0)").does("addLot(0, 1, 0)").does("order(1, 2, 50)").does("open(1)")
                .faulty(text, position)
                .due("lot(0, 0)", 0)
                // The buffer is emptied: what follows is a text of its own.
                .reads("o0", 1);
    }

    private static void good(String sentence, String text, int done) {
        new Run(sentence + " [" + text + "]")
                .does("addLot(0, 1, 0)").does("addLot(0, 1, 0)").does("order(0, 2, 50)").does("open(1)")
                .reads(text, done);
    }

    private static String repeated(String text, int times) {
        StringBuilder all = new StringBuilder();
        for (int i = 0; i < times; i++) {
            all.append(text);
        }
        return all.toString();
    }

    private static void oneOrMoreCommands() {
        String sentence = "A text of commands consists of one or more commands with \";\" between them";
        fault(sentence, "", 0);
        fault(sentence, ";", 0);
        fault(sentence, ";o0", 0);
        good(sentence, "o0", 1);
        fault(sentence, "o0;", 3);
        fault(sentence, "o0;;h0", 3);
        good(sentence, "o0;h0", 2);
        fault(sentence, "o0;h0;", 6);
        fault(sentence, "o0,h0", 2);
        fault(sentence, "o0 h0", 2);
        fault(sentence, "o0h0", 2);
    }

    private static void letters() {
        String sentence = "o and a lot to open it, h and a lot to close it, w and a lot to withdraw it, b, a lot, a "
                + "bidder and an amount for a live bid, a, a lot, a bidder and a maximum for an order, and c, a lot "
                + "and a bidder to cancel an order";
        for (char c = 0; c < 300; c++) {
            if ("ohwbac".indexOf(c) < 0) {
                fault(sentence, c + "0,2,50", 0);
            }
        }
        good(sentence, "o0", 1);
        good(sentence, "h1", 1);
        good(sentence, "w0", 1);
        good(sentence, "b1,3,10", 1);
        good(sentence, "a0,3,10", 1);
        good(sentence, "c0,2", 1);
        fault(sentence, "O0", 0);
        fault(sentence, "oo0", 1);
    }

    private static void numbersOfEachCommand() {
        String sentence = "The fault position of a text is the index of its first character that cannot continue such "
                + "a text, or the length of the text if it ends too early.";
        for (String letter : new String[] {"o", "h", "w"}) {
            fault(sentence, letter, 1);
            fault(sentence, letter + ",", 1);
            fault(sentence, letter + ";", 1);
            fault(sentence, letter + "1,", 2);
            fault(sentence, letter + "1,2", 2);
        }
        fault(sentence, "c", 1);
        fault(sentence, "c0", 2);
        fault(sentence, "c0;o0", 2);
        fault(sentence, "c0,", 3);
        fault(sentence, "c0,;", 3);
        fault(sentence, "c0,,2", 3);
        fault(sentence, "c0,2,", 4);
        fault(sentence, "c0,2,3", 4);
        for (String letter : new String[] {"b", "a"}) {
            fault(sentence, letter, 1);
            fault(sentence, letter + "1", 2);
            fault(sentence, letter + "1;o0", 2);
            fault(sentence, letter + "1,", 3);
            fault(sentence, letter + "1,3", 4);
            fault(sentence, letter + "1,3;o0", 4);
            fault(sentence, letter + "1,3,", 5);
            fault(sentence, letter + "1,3,;o0", 5);
            fault(sentence, letter + "1,3,50,", 7);
            fault(sentence, letter + "1,3,50,1", 7);
        }
    }

    private static void digits() {
        String sentence = "where numbers have 1 to 5 digits and \",\" between them";
        good(sentence, "o0", 1);
        good(sentence, "o00000", 1);
        fault(sentence, "o000000", 6);
        fault(sentence, "o0000000", 6);
        good(sentence, "c00000,00002", 1);
        fault(sentence, "c000000,00002", 6);
        fault(sentence, "c00000,000002", 12);
        good(sentence, "b00001,00003,00010", 1);
        fault(sentence, "b000001,00003,00010", 6);
        fault(sentence, "b00001,000003,00010", 12);
        fault(sentence, "b00001,00003,000010", 18);
        good(sentence, "a00000,00003,00010", 1);
        fault(sentence, "a00000,00003,000010", 18);
        fault(sentence, "o-0", 1);
        fault(sentence, "o+0", 1);
        fault(sentence, "o 0", 1);
        fault(sentence, "o0 ", 2);
        // The neighbours of the digits, and a digit of another script.
        fault(sentence, "o/", 1);
        fault(sentence, "o:", 1);
        fault(sentence, "o0/", 2);
        fault(sentence, "o0:", 2);
        fault(sentence, "o" + (char) 0x0660, 1);
        fault(sentence, "o0" + (char) 0xff10, 2);
    }

    private static void greatestNumbers() {
        new Run("where numbers have 1 to 5 digits")
                .does("setRows(0, 0, 9)").does("addLot(0, 1, 0)").does("setCredit(3, 999999)").does("setCredit(4, 90000)")
                .reads("o99999", 0).reads("b0,99999,10;o0", 0)
                .reads("o0;b0,3,99999;a0,4,90000;a0,4,90001", 3)
                .due("limit(0, 0, 1)", 99999).due("limit(0, 1, 1)", 90000).due("maximum(0, 4)", 90000);
    }

    private static void leadingZeros() {
        new Run("numbers may begin with 0")
                .does("addLot(0, 1, 0)")
                .reads("a00000,00009,00020", 1).due("maximum(0, 9)", 20)
                .reads("o0;b00,08,030", 2).due("limit(0, 0, 0)", 8).due("limit(0, 0, 1)", 30);
    }

    private static void commandsThatThrow() {
        new Run("A text throws nothing for a command that would throw")
                .does("addLot(0, 1, 50)").does("addLot(0, 1, 0)")
                .reads("o2;o0", 0).due("lot(0, 0)", 0)
                .reads("h0;o0", 0).due("lot(0, 0)", 0)
                .reads("c0,0;o0", 0).reads("c0,10;o0", 0)
                .reads("b0,10,10;o0", 0).reads("b0,0,0;o0", 0)
                .reads("a0,10,10;o0", 0).reads("a0,0,0;o0", 0).reads("a0,0,90001;o0", 0)
                .throwsElement("refusal()")
                .reads("o0;o0;o1", 1).due("lot(0, 0)", 1).due("lot(1, 0)", 0)
                .reads("w0;o1", 0).due("lot(1, 0)", 0)
                .reads("w1;h0;h0", 2);
    }

    private static void refusedCommands() {
        new Run("the reason of a refused bid or order in it is kept")
                .does("addLot(0, 1, 0)")
                .throwsElement("refusal()")
                .reads("b0,1,10;o0", 0).due("refusal()", 1).due("lot(0, 0)", 0)
                .reads("o0;a0,1,50;a0,1,50;h0", 2).due("refusal()", 7).due("lot(0, 0)", 1)
                .reads("b0,1,20", 0).due("refusal()", 2)
                .reads("b0,2,15;b0,2,20", 0).due("refusal()", 3)
                .reads("b0,2,20;h9", 1).due("refusal()", 3);
    }

    private static void eachCommandIsAChange() {
        Run run = new Run("each command that is carried out is a change of its own")
                .times(2, "addLot(0, 1, 0)");
        int before = run.length();
        run.reads("a0,1,50;a0,2,60;o0;b0,3,70;h0;w1;w1", 6)
                .due("undo()", 7).due("lots(4)", 0).due("lots(2)", 1)
                .due("undo()", 6).due("lots(2)", 0).due("lots(1)", 1)
                .due("undo()", 5).due("standing(0, 6)", 2)
                .due("undo()", 4).due("lots(1)", 0)
                .due("undo()", 3).due("orders(0)", 1)
                .due("undo()", 2)
                .isAsAfter(before);
    }

    private static void sixtyCharacters() {
        new Run("IllegalStateException if the buffer contains 60 characters")
                .does("addLot(0, 1, 0)")
                .text(repeated("o0;", 19) + "o0")
                .does("append(48)")
                .throwsState("append(48)").throwsState("append(0)")
                .due("read()", 1).due("faultPosition()", -1)
                .does("append(111)").does("append(57)").due("read()", 0);
        new Run("IllegalStateException if the buffer contains 60 characters")
                .text(repeated("o9;", 20))
                .throwsState("append(59)")
                .does("lots(-1)");
    }

    private static void longestTexts() {
        StringBuilder text = new StringBuilder();
        Run run = new Run("Reads the text buffer as a text of commands and carries them out, from left to right");
        for (int lot = 0; lot < 10; lot++) {
            run.does("addLot(0, 1, 0)");
            text.append('o').append(lot).append(';');
        }
        for (int lot = 0; lot < 10; lot++) {
            text.append('h').append(lot == 9 ? "0" : "").append(lot).append(lot == 9 ? "" : ";");
        }
        run.reads(text.toString(), 20).due("lots(3)", 10).due("events(-1)", 20);
        String sentence = "or the length of the text if it ends too early";
        fault(sentence, repeated("o0;", 20), 60);
        fault(sentence, repeated("o0;", 19) + "o0,", 59);
        fault(sentence, repeated("o0;", 19) + "a00", 60);
        fault(sentence, repeated("o0;", 19) + "a0,", 60);
        fault(sentence, repeated("o0;", 19) + "c0,", 60);
        fault(sentence, repeated("o0;", 19) + "ohw", 58);
        fault(sentence, "o0" + repeated(";", 58), 3);
        fault(sentence, repeated("0", 60), 0);
        fault(sentence, "o" + repeated("0", 59), 6);
    }

    private static void anyCharacter() {
        Run run = new Run("Any character can be appended.");
        for (int c : new int[] {0, 10, 13, 32, 127, 128, 255, 256, 0x7fff, 0xd800, 0xdfff, 0xfffe, 0xffff}) {
            run.does("append(" + c + ")").faulty("", 0);
            run.text("w").does("append(" + c + ")").faulty("", 1);
        }
    }

    private static void emptiedBuffer() {
        new Run("The buffer is emptied, also if an exception is thrown.")
                .does("addLot(0, 1, 0)")
                .faulty("o0;x", 3)
                .faulty("", 0)
                .reads("o0;o7;o8", 1)
                .faulty("", 0)
                .faulty(";h0", 0)
                .faulty("o", 1)
                .reads("h0", 1)
                .faulty(",0", 0);
    }

    private static void faultPosition() {
        new Run("Returns the fault position, or -1 if the text had no fault or read has not been called.")
                .due("faultPosition()", -1)
                .text("o0;").due("faultPosition()", -1)
                .does("addLot(0, 1, 0)").due("faultPosition()", -1)
                .faulty("", 3)
                .does("addLot(0, 1, 0)").due("faultPosition()", 3)
                .text("o").due("faultPosition()", 3)
                .text("1").due("read()", 1).due("faultPosition()", -1)
                .faulty("h", 1).due("faultPosition()", 1)
                // A text that carries out nothing has no fault all the same.
                .reads("h7", 0);
    }

    public static void main(String[] args) {
        oneOrMoreCommands();
        letters();
        numbersOfEachCommand();
        digits();
        greatestNumbers();
        leadingZeros();
        commandsThatThrow();
        refusedCommands();
        eachCommandIsAChange();
        sixtyCharacters();
        longestTexts();
        anyCharacter();
        emptiedBuffer();
        faultPosition();
        Expect.end();
    }
}
