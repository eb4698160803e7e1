import java.util.regex.Matcher;
import java.util.regex.Pattern;

/** Boundary cases that the document names for promises 7 to 10: bytes of texts, FAULTS, THE PAN second by second. */
public final class EdgesOfTextsTest {
    private static final int NONE = Pans.NONE, BAD = Pans.BAD, FULL = Pans.FULL;
    private static final Pattern PAN = Pattern.compile("((h[0-9]{1,2}x[0-9]{1,2}|[slo])(;(h[0-9]{1,2}x[0-9]{1,2}|[slo]))*)?");
    private static final Pattern RULE = Pattern.compile("(([gn][0-9]{1,2}|t[0-9]{1,3})(\\|([gn][0-9]{1,2}|t[0-9]{1,3}))*)?");
    private static final Pattern NUMBER = Pattern.compile("([hxgnt])([0-9]+)");
    private static final String FIGURES = "0123456789";

    private EdgesOfTextsTest() {
    }

    public static void main(String[] args) {
        roomOfTexts();
        wipedTexts();
        emptyTexts();
        textsThatAreNotEnded();
        numbersOfThePan();
        numbersOfRules();
        eachByteOfThePan();
        eachByteOfARule();
        shortTexts(0, "hxs;019q", 6);
        shortTexts(1, "gt|012q", 6);
        fullTexts();
        textsOfTheirOwn();
        asIfItWasEmpty();
        oneSecondOrNinetyNine();
        behindItsEnd();
        shakenBehindItsEnd();
        theLid();
        beyondSecond199();
        secondsOfThePan();
        Check.end();
    }

    private static void due(String call, long got, long want) {
        Check.due(call, got, want);
    }

    private static void fault(int text, String signs, int want) {
        PopPan x = new PopPan();
        Check.type(x, text, signs);
        due("9: fault(" + text + ") of '" + signs + "'", x.fault(text), want);
        due("9: bytes of '" + signs + "'", x.count(text + 1), signs.length());
    }

    /** 7: 'THE PAN is a text of up to 60 bytes', 'RULES 0, 1, 2 are texts of up to 30 bytes'; '(0 to 255)'. */
    private static void roomOfTexts() {
        for (int text = 0; text <= 3; text++) {
            int most = text == 0 ? 60 : 30;
            PopPan x = new PopPan();
            due("7: no byte yet in " + text, x.count(1 + text), 0);
            for (int i = 1; i <= most; i++) {
                due("7: byte " + i + " of " + text, x.type(text, i % 2 == 0 ? 0 : 255), i);
            }
            for (int i = 0; i < 3; i++) {
                due("7: one more of " + text, x.type(text, 's'), FULL);
            }
            due("7: so many stay in " + text, x.count(1 + text), most);
            due("8: all of " + text + " are wiped", x.wipe(text), most);
            due("7: room again in " + text, x.type(text, 's'), 1);
            for (int other = 0; other <= 3; other++) {
                due("7: text " + other + " beside " + text, x.count(1 + other), other == text ? 1 : 0);
            }
        }
    }

    /** 8: 'A text is empty: how many bytes it had.' */
    private static void wipedTexts() {
        for (int text = 0; text <= 3; text++) {
            PopPan x = new PopPan();
            due("8: an empty one, " + text, x.wipe(text), 0);
            x.type(text, 'q');
            due("9: a FAULT before, " + text, x.fault(text), 0);
            due("8: of one byte, " + text, x.wipe(text), 1);
            due("8: twice, " + text, x.wipe(text), 0);
            due("9: empty is well, " + text, x.fault(text), NONE);
        }
    }

    /** 9: '(an empty text is well ..)' */
    private static void emptyTexts() {
        for (int text = 0; text <= 3; text++) {
            fault(text, "", NONE);
        }
    }

    /** 9: 'of one that is not ended, as behind a ;, its end' */
    private static void textsThatAreNotEnded() {
        String pan = "h9x9;s;l;o;h10x10;";
        boolean[] ended = new boolean[pan.length() + 1];
        for (int end : new int[] {0, 4, 6, 8, 10, 16, 17}) {
            ended[end] = true;
        }
        for (int i = 0; i <= pan.length(); i++) {
            fault(0, pan.substring(0, i), ended[i] ? NONE : i);
        }
        String rule = "g9|n99|t200|";
        boolean[] well = new boolean[rule.length() + 1];
        for (int end : new int[] {0, 2, 5, 6, 9, 10, 11}) {
            well[end] = true;
        }
        for (int text = 1; text <= 3; text++) {
            for (int i = 0; i <= rule.length(); i++) {
                fault(text, rule.substring(0, i), well[i] ? NONE : i);
            }
        }
    }

    /** 9: 'a HEAT (one or two figures, 0 to 99), x, SECONDS (one or two figures, 1 to 99)' */
    private static void numbersOfThePan() {
        for (int v = 0; v <= 99; v++) {
            fault(0, "h" + v + "x1", NONE);
            fault(0, "h1x" + v, v == 0 ? 3 : NONE);
        }
        for (int v = 0; v <= 9; v++) {
            fault(0, "h0" + v + "x1", NONE);
            fault(0, "h1x0" + v, v == 0 ? 3 : NONE);
        }
        fault(0, "h100x1", 3);
        fault(0, "h000x1", 3);
        fault(0, "h1x100", 5);
        fault(0, "h1x010", 5);
        fault(0, "h1x990", 5);
        fault(0, "s;s;h1x0", 7);
        fault(0, "s;s;h1x00;s", 7);
        fault(0, "h1x0;h1x0", 3);
        fault(0, "h1x1;h22x0;q", 9);
        fault(0, "h-1x1", 1);
        fault(0, "h1x-1", 3);
    }

    /** 9: 'g, a number (one or two figures, 1 to 99)', 'n (likewise)', 't, a number (one to three figures, 1 to 200)' */
    private static void numbersOfRules() {
        for (int v = 0; v <= 99; v++) {
            fault(1, "g" + v, v == 0 ? 1 : NONE);
            fault(2, "n" + v, v == 0 ? 1 : NONE);
        }
        for (int v = 0; v <= 999; v++) {
            fault(3, "t" + v, v == 0 || v > 200 ? 1 : NONE);
        }
        for (int v = 0; v <= 9; v++) {
            fault(1, "g0" + v, v == 0 ? 1 : NONE);
            fault(1, "t0" + v, v == 0 ? 1 : NONE);
            fault(1, "t00" + v, v == 0 ? 1 : NONE);
            fault(1, "g10" + v, 3);
            fault(1, "n99" + v, 3);
            fault(1, "t200" + v, 4);
            fault(1, "t001" + v, 4);
        }
        fault(2, "g9|n0", 4);
        fault(2, "g9|t201|q", 4);
        fault(2, "t201|g0", 1);
    }

    /** One byte of all 256 behind a text: those that may come, and whether it is ended then. */
    private static void eachByte(int text, String before, String mayEnd, String mayGoOn) {
        for (int b = 0; b <= 255; b++) {
            int want = mayEnd.indexOf(b) >= 0 ? NONE : mayGoOn.indexOf(b) >= 0 ? before.length() + 1 : before.length();
            fault(text, before + (char) b, want);
        }
    }

    /** 9: 'the place of the first byte with which it cannot go on', of THE PAN. */
    private static void eachByteOfThePan() {
        eachByte(0, "", "slo", "h");
        eachByte(0, "h", "", FIGURES);
        eachByte(0, "h0", "", FIGURES + "x");
        eachByte(0, "h99", "", "x");
        eachByte(0, "h5x", "123456789", "");
        eachByte(0, "h5x1", FIGURES, ";");
        eachByte(0, "h5x99", "", ";");
        eachByte(0, "s", "", ";");
        eachByte(0, "l", "", ";");
        eachByte(0, "o", "", ";");
        eachByte(0, "s;", "slo", "h");
        eachByte(0, "h5x9;", "slo", "h");
    }

    /** 9: the same of RULES. */
    private static void eachByteOfARule() {
        for (int text = 1; text <= 3; text++) {
            eachByte(text, "", "", "gnt");
            eachByte(text, "g", "123456789", "");
            eachByte(text, "n", "123456789", "");
            eachByte(text, "t", "123456789", "");
            eachByte(text, "g1", FIGURES, "|");
            eachByte(text, "n9", FIGURES, "|");
            eachByte(text, "t1", FIGURES, "|");
            eachByte(text, "t10", FIGURES, "|");
            eachByte(text, "g10", "", "|");
            eachByte(text, "n99", "", "|");
            eachByte(text, "t200", "", "|");
            eachByte(text, "t2|", "", "gnt");
        }
    }

    private static boolean mayNotBe(char kind, String figures) {
        int v = Integer.parseInt(figures);
        int least = kind == 'h' ? 0 : 1;
        int most = kind == 't' ? 200 : 99;
        return v < least || v > most;
    }

    /** The FAULT by the words: how far it can go on as a text of such parts, but for an earlier number that may not be. */
    private static int faultByWords(Pattern form, String signs) {
        int end = 0;
        Matcher whole = form.matcher(signs);
        boolean well = whole.matches();
        while (end < signs.length() && goesOn(form, signs.substring(0, end + 1))) {
            end++;
        }
        Matcher numbers = NUMBER.matcher(signs.substring(0, end));
        while (numbers.find()) {
            if (mayNotBe(numbers.group(1).charAt(0), numbers.group(2))) {
                return numbers.start(2);
            }
        }
        return well ? NONE : end;
    }

    private static boolean goesOn(Pattern form, String signs) {
        Matcher m = form.matcher(signs);
        return m.matches() || m.hitEnd();
    }

    /** 9: all texts of a few signs, up to some length, against the words of the document. */
    private static void shortTexts(int text, String signs, int longest) {
        Pattern form = text == 0 ? PAN : RULE;
        int wrong = Check.wrongSoFar();
        int number = 1;
        for (int length = 1; length <= longest && Check.wrongSoFar() == wrong; length++) {
            number *= signs.length();
            for (int i = 0; i < number; i++) {
                String made = made(signs, length, i);
                PopPan x = new PopPan();
                Check.type(x, text, made);
                due("9: fault(" + text + ") of '" + made + "'", x.fault(text), faultByWords(form, made));
            }
        }
    }

    private static String made(String signs, int length, int number) {
        StringBuilder s = new StringBuilder();
        int rest = number;
        for (int i = 0; i < length; i++) {
            s.append(signs.charAt(rest % signs.length()));
            rest /= signs.length();
        }
        return s.toString();
    }

    /** 7, 9: texts to the last byte: the end of one that is not ended is 60 or 30. */
    private static void fullTexts() {
        fault(0, Pans.fullPan(), NONE);
        fault(0, "h1x1;".repeat(12), 60);
        fault(0, "s;".repeat(30), 60);
        fault(0, "s;".repeat(29) + "ss", 59);
        fault(0, "s;".repeat(28) + "h1x1", NONE);
        fault(0, "s;".repeat(28) + "h1x0", 59);
        fault(0, "s;".repeat(29) + "h1", 60);
        for (int text = 1; text <= 3; text++) {
            fault(text, Pans.fullRule(text), NONE);
            fault(text, "g9|".repeat(10), 30);
            fault(text, "g9|".repeat(9) + "t20", NONE);
            fault(text, "g9|".repeat(8) + "g1|t20", NONE);
            fault(text, "g10|n2|".repeat(3) + "g12|t2000", 29);
            fault(text, "g10|n2|".repeat(3) + "g1|t99|t0", 29);
        }
    }

    /** 9, 13, 14: a FAULT is its text's alone. */
    private static void textsOfTheirOwn() {
        for (int text = 0; text <= 3; text++) {
            PopPan x = new PopPan();
            x.type(text, 'q');
            for (int other = 0; other <= 3; other++) {
                due("9: of " + other + " beside " + text, x.fault(other), other == text ? 0 : NONE);
            }
        }
        fault(0, "g1", 0);
        fault(0, "t1", 0);
        fault(1, "h1x1", 0);
        fault(1, "s", 0);
        fault(0, "s|s", 1);
        fault(1, "g1;g1", 2);
    }

    /** 10: 'With a FAULT it is as if it was empty.' */
    private static void asIfItWasEmpty() {
        String[] parts = {";", "q", "0", "h"};
        for (String part : parts) {
            PopPan x = Pans.with("s;l;h50x99;s");
            due("10: before it", x.pan(0, 0) + x.pan(0, 1) + x.pan(0, 2), 52);
            due("10: shaken behind", x.pan(99, 1), 1);
            Check.type(x, 0, part);
            int seen = 0;
            for (int second = 0; second < 150; second++) {
                seen += x.pan(second, 0) + x.pan(second, 1) + x.pan(second, 2);
            }
            due("10: as if it was empty behind " + part, seen, 0);
            due("33: no SECONDS behind " + part, x.count(5), 0);
            x.grain(0, 40, 10, 3, 0);
            due("11: no WARMTH behind " + part, x.after(0, 200, 0), 0);
        }
        PopPan x = Pans.with("h50x5;l;");
        due("10: not ended", x.pan(0, 0), 0);
        x.type(0, 'o');
        due("10: ended", x.pan(0, 0), 50);
        x.type(0, '1');
        due("10: a FAULT again", x.pan(0, 0), 0);
    }

    /** 10: 'so much HEAT for so long', 1 to 99 SECONDS, HEAT 0 to 99. */
    private static void oneSecondOrNinetyNine() {
        PopPan x = Pans.with("h99x1");
        due("10: the one second", x.pan(0, 0), 99);
        due("10: behind it", x.pan(1, 0), 0);
        Check.retype(x, 0, "h1x99");
        due("10: the 99th", x.pan(98, 0), 1);
        due("10: the 100th", x.pan(99, 0), 0);
        Check.retype(x, 0, "h7x1;h0x1;h8x2;h9x1");
        int[] heats = {7, 0, 8, 8, 9, 0};
        for (int second = 0; second < heats.length; second++) {
            due("10: second " + second, x.pan(second, 0), heats[second]);
        }
        Check.retype(x, 0, "h07x01;h10x10");
        due("10: 07 is 7", x.pan(0, 0), 7);
        due("10: 01 is 1", x.pan(1, 0), 10);
        due("10: 10 seconds", x.pan(10, 0), 10);
        due("10: not 11", x.pan(11, 0), 0);
    }

    /** 10: 'Behind its end the HEAT is 0.' */
    private static void behindItsEnd() {
        PopPan x = Pans.with("h1x99;h2x99;h3x1");
        due("10: the last of 199", x.pan(198, 0), 3);
        due("10: behind 199", x.pan(199, 0), 0);
        x.type(0, '0');
        due("10: now to second 207", x.pan(199, 0), 3);
        due("10: second 200 is none", x.pan(200, 0), BAD);
        PopPan empty = new PopPan();
        due("10: of an empty one, 0", empty.pan(0, 0), 0);
        due("10: of an empty one, 199", empty.pan(199, 0), 0);
    }

    /** 10: 's: it is shaken, at the beginning of the second that comes then' */
    private static void shakenBehindItsEnd() {
        PopPan x = Pans.with("s");
        due("10: shaken alone", x.pan(0, 1), 1);
        due("10: once", x.pan(1, 1), 0);
        Check.retype(x, 0, "h5x2;s");
        due("10: not in the last of the heat", x.pan(1, 1), 0);
        due("10: in the one that comes then", x.pan(2, 1), 1);
        due("10: not again", x.pan(3, 1), 0);
        Check.retype(x, 0, "s;".repeat(29) + "s");
        due("10: thirty times", x.pan(0, 1), 30);
        Check.retype(x, 0, "s;l;s;o;s;h5x1;s;h5x1");
        due("10: the lid takes no second", x.pan(0, 1), 3);
        due("10: the next", x.pan(1, 1), 1);
    }

    /** 10: 'l: the lid is on from then on; o: it is off. (Off at first.)' */
    private static void theLid() {
        PopPan x = Pans.with("h5x2;l;h5x2;o;h5x1");
        int[] lids = {0, 0, 1, 1, 0, 0};
        for (int second = 0; second < lids.length; second++) {
            due("10: lid in " + second, x.pan(second, 2), lids[second]);
        }
        Check.retype(x, 0, "l");
        due("10: on at once", x.pan(0, 2), 1);
        due("10: on to the last", x.pan(199, 2), 1);
        Check.retype(x, 0, "l;o");
        due("10: off at once", x.pan(0, 2), 0);
        due("10: off to the last", x.pan(199, 2), 0);
        Check.retype(x, 0, "o;l");
        due("10: the later one", x.pan(0, 2), 1);
        Check.retype(x, 0, "o;o;h1x1;l;l");
        due("10: off already", x.pan(0, 2), 0);
        due("10: on already", x.pan(1, 2), 1);
    }

    /** 10: 'Of THE PAN in a SECOND (0 to 199)': what comes for second 200 or later is not seen in 199. */
    private static void beyondSecond199() {
        String most = "h1x99;h1x99;h1x";
        PopPan x = Pans.with(most + "1;s;l;h9x9");
        due("10: heat of 199", x.pan(199, 0), 9);
        due("10: shaken in 199", x.pan(199, 1), 1);
        due("10: lid in 199", x.pan(199, 2), 1);
        Check.retype(x, 0, most + "2;s;l;h9x9");
        due("10: heat of 199 before it", x.pan(199, 0), 1);
        due("10: not shaken in 199", x.pan(199, 1), 0);
        due("10: no lid in 199", x.pan(199, 2), 0);
        due("9: it is well", x.fault(0), NONE);
        Check.retype(x, 0, most + "99;s;s;l;h9x99;h9x99;s;h9x99");
        due("9: so is a far longer one", x.fault(0), NONE);
        due("10: heat of 199 before all this", x.pan(199, 0), 1);
        due("10: nothing else in 199", x.pan(199, 1) + x.pan(199, 2), 0);
    }

    /** 33: '5 SECONDS of THE PAN (the lid and shaking have none)'; more than 200 are told, too. */
    private static void secondsOfThePan() {
        PopPan x = new PopPan();
        due("33: of an empty one", x.count(5), 0);
        String[] texts = {"s;l;o;s", "h0x1", "h0x99", "s;h1x99;l;h1x99;o;h1x2", "h1x99;h1x99;h1x3", "h1x01;h1x10"};
        int[] seconds = {0, 1, 99, 200, 201, 11};
        for (int i = 0; i < texts.length; i++) {
            Check.retype(x, 0, texts[i]);
            due("33: SECONDS of " + texts[i], x.count(5), seconds[i]);
        }
        Check.retype(x, 0, "h1x99;".repeat(9) + "h9x99");
        due("33: the most", x.count(5), 990);
    }
}
