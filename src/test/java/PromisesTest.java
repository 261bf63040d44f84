import java.util.Arrays;
import java.util.List;

/**
 * The document from its first line to its last: for each promise a run of calls on a new object, with the answers that
 * its words ask for, reckoned by hand: ordinary numbers, the edges that it names, wrong numbers.
 * "tape .." puts a text on THE TAPE. A new object's FAR in MINUTE m is 4 and the size of 2 m - 10; had is 86 - 4 FAR
 * (30 38 46 54 62 70 62 54 46 38 30), chalk 90 - 5 FAR (20 30 40 50 60 70 60 50 40 30 20).
 */
public final class PromisesTest {
    private static final Check check = new Check("PromisesTest");
    private static final String NO = " = -4611686018427387904";
    private static final String FALLING = "tape had 100 - minute * 10 ; chalk 50 ; takes 1 ;";

    private static final String[][] THE_PASS = {
        {"1 a new object", "count 6 = 0", "count 7 = 0", "count 8 = 0", "count 9 = 0", "count 0 = 4", "count 1 = 2",
            "count 2 = 0", "count 3 = 3", "count 4 = 0", "count 5 = 11", "count 10 = 1", "count 11 = 0", "count 12 = 0",
            "want 0 0 = 9", "want 1 0 = 7", "want 2 0 = 5", "want 3 0 = 3", "want 4 0 = 2", "want 5 0 = 1",
            "asks 0 0 0 = 30", "asks 1 0 0 = 20", "asks 2 0 0 = 1", "taken 0 6 = -11", "taken 6 0 = -11",
            "cell 0 0 0 = -11", "cell 3 0 0 = -11", "back = -3"},
        {"2 set", "set 0 20 = 4", "set 0 0 = 20", "set 0 21 = -2", "set 0 -1 = -2", "set 1 9 = 2", "set 1 0 = 9",
            "set 1 10 = -2", "set 1 -1 = -2", "set 2 -9 = 0", "set 2 9 = -9", "set 2 10 = -2", "set 2 -10 = -2",
            "set 3 0 = 3", "set 3 9 = 0", "set 3 10 = -2", "set 3 -1 = -2", "set 4 4095 = 0", "set 4 0 = 4095",
            "set 4 4096 = -2", "set 4 -1 = -2", "set 5 12 = 11", "set 5 1 = 12", "set 5 13 = -2", "set 5 0 = -2",
            "set 6 0 = -1", "set -1 -99 = -1", "count 0 = 0", "count 1 = 0", "count 2 = 9", "count 3 = 9",
            "count 4 = 0", "count 5 = 1"},
        {"3 want", "want 0 99 = 9", "want 0 0 = 99", "want 5 7 = 1", "want 5 100 = -2", "want 5 -1 = -2",
            "want 6 0 = -1", "want -1 100 = -1", "say 0 5 0 = 0", "run 0 = 2100000", "want 5 7 = 7"},
        {"4 count", "set 2 -2 = 0", "count 2 = -2", "say 0 0 0 = 0", "say 0 0 0 = 1", "word 0 0 = 0", "word 0 0 = 1",
            "word 0 0 = 2", "print 0 0 0 0 = 0", "meet 0 0 1 = 0", "meet 0 0 1 = 1", "meet 0 0 1 = 2", "meet 0 0 1 = 3",
            FALLING, "count 12 = 44", "text = 1", "force 1 = 0", "feed 0 5 = 5", "count 6 = 2", "count 7 = 3",
            "count 8 = 1", "count 9 = 4", "count 10 = 2", "count 11 = 1", "count 12 = 5", "count 13 = -2",
            "count -1 = -2"},
        {"5 pass", "pass 0 = 14", "pass 3 = 8", "pass 5 = 4", "pass 10 = 14", "pass 11 = -2", "pass -1 = -2",
            "set 5 12 = 11", "set 1 1 = 2", "pass 0 = 9", "pass 5 = 4", "pass 6 = 4", "pass 7 = 5", "pass 11 = 9",
            "pass 12 = -2", "set 5 1 = 12", "set 0 20 = 4", "pass 0 = 20", "pass 1 = -2"},
    };

    private static final String[][] THE_LAW = {
        // 6840676 is "had", 1063805284 "?had"
        {"6 feed", "feed 6840676 3 = 3", "text = -103", "feed 1063805284 3 = 3", "text = -103", "feed 1063805284 4 = 4",
            "text = -100", "feed -1 8 = 8", "feed -1 1 = 9", "feed 0 0 = -2", "feed 0 9 = -2", "feed 0 -1 = -2",
            "feed 0 8 = 17", "count 12 = 17"},
        {"7 text", "text = -100", "tape had 1;chalk 2;takes 3;", "text = 1", "count 12 = 0", "tape had 1;chalk 2;takes 3",
            "text = -121", "tape had 1;chalk 2;takes 3; 4", "text = -123", "tape had 12345;", "text = -104",
            "tape had hat;", "text = -104", "tape had 1 < 2 < 3;", "text = -110", "tape had 1 + not 1;", "text = -108",
            "tape had ((((((1", "text = -109", "tape had not-not", "text = -108", "tape had - - - - - -1", "text = -114",
            "tape had not not (not(1)) and (((((7))))) ?", "text = -137", "tape had 1 $", "text = -106", "tape chalk 1;",
            "text = -100", "tape had 1 ;  ", "text = -109", "count 10 = 2", "tape had 1;chalk 2;takes 3;", "text = 2",
            "tape had 1;chalk 2;takes 3;", "text = 3", "tape had 1;chalk 2;takes 3;", "text = 4",
            "tape had 1;chalk 2;takes 3;", "text = 5", "tape ?", "text = -4", "count 12 = 1", "count 10 = 6"},
        {"8 force", FALLING, "text = 1", "asks 0 1 0 = 38", "force 1 = 0", "asks 0 1 0 = 90", "force 2 = -2",
            "force -1 = -2", "force 1 = 1", "force 0 = 1", "count 11 = 0"},
        {"9 asks", "asks 0 5 0 = 70", "asks 1 5 0 = 70", "asks 2 5 0 = 1", "set 2 -9 = 0", "asks 0 5 0 = 52",
            "set 3 0 = 3", "asks 0 5 0 = 61", "set 4 32 = 0", "asks 0 5 0 = 21", "asks 0 4 0 = 53", "set 0 20 = 4",
            "asks 0 5 0 = 0", "asks 1 5 0 = 0", "asks 3 0 0 = -2", "asks -1 0 0 = -2", "asks 0 11 0 = -2",
            "asks 0 -1 0 = -2", "asks 0 0 6 = -2", "asks 0 0 -1 = -2",
            "tape had 2 + word * 3 - - minute ; chalk 101 ; takes word - 1 ;", "text = 1", "force 1 = 0",
            "asks 0 7 5 = 24", "asks 1 0 0 = 100", "asks 2 0 0 = 1", "asks 2 0 4 = 3",
            "tape had not (word < 3 or 0) and 7 = 7 ; chalk 9999 * 9999 * 22 ; takes 7 ;", "text = 2", "force 2 = 1",
            // 9999 * 9999 * 22 is 2199560022, of 32 bits -2095407274
            "asks 0 0 2 = 0", "asks 0 0 3 = 1", "asks 1 0 0 = 0", "asks 2 0 0 = 6",
            "tape had 5 + (word = 3) ; chalk 5 + (word < 3) ; takes 1 ;", "text = 3", "force 3 = 2", "asks 0 0 2 = 5",
            "asks 0 0 3 = 6", "asks 1 0 2 = 6", "asks 1 0 3 = 5"},
    };

    private static final String[][] ROWS = {
        {"10 say", "say 0 0 0 = 0", "say 5 5 9 = 1", "say 6 0 0 = -2", "say -1 0 0 = -2", "say 0 6 0 = -2",
            "say 0 -1 0 = -2", "say 0 0 10 = -2", "say 0 0 -1 = -2", "count 6 = 2", "say 1 0 0 = 2", "say 1 0 0 = 3",
            "say 1 0 0 = 4", "say 1 0 0 = 5", "say 1 0 0 = 6", "say 1 0 0 = 7", "say 1 0 0 = -4", "say 6 0 0 = -2",
            "count 6 = 8"},
        {"11 told", "say 0 0 9 = 0", "say 1 1 5 = 1", "say 2 2 7 = 2", "say 3 3 2 = 3", "say 4 4 1 = 4", "say 5 5 2 = 5",
            "told 3 0 0 = 3", "told 3 0 1 = 3", "told 3 0 2 = 2", "told 0 0 3 = 30", "told 1 0 3 = 45",
            // 100 80 64 51 40 32 25 20 16, eight times by 80 of 100; p 76: 76 and 24 * 76 by 100
            "told 2 5 3 = 16", "told 3 5 3 = 94", "told 4 0 3 = 20", "told 5 5 3 = 100", "told 5 4 3 = 30",
            "told 0 0 4 = 1", "told 1 0 4 = 1", "told 2 0 4 = 3", "told 3 0 4 = 2", "told 4 0 4 = 1", "told 5 0 4 = 2",
            "told 0 0 5 = 1", "told 3 0 5 = 1", "told 4 0 5 = 0", "told 5 0 5 = 0", "told 6 0 0 = -5", "told -1 0 0 = -5",
            "told 6 11 6 = -5", "told 0 11 3 = -7", "told 0 -1 0 = -7", "told 0 0 6 = -7", "told 0 0 -1 = -7",
            "say 5 0 7 = 6", "say 5 0 6 = 7", "told 6 0 3 = 100", "told 7 0 3 = 10", "set 3 0 = 3", "set 2 9 = 0",
            "set 0 0 = 4", "told 1 5 3 = 100"},
        {"12 run", "run 0 = 0", "run 1 = 0", "run 2 = 0", "say 0 0 0 = 0", "say 0 0 0 = 1", "say 4 5 0 = 2",
            // missed of 0: 700000, then by 62 of 100: 434000; of 5: 600000
            "run 2 = 566000", "run 7 = 400000", "run 3 = 0", "run 0 = 5494000", "run 1 = 3", "set 5 2 = 11",
            // now FAR is 5 in both: had 66, missed 340000, then 115600
            "run 1 = 2", "run 2 = 884400", "run 7 = 0", "run 0 = 7959600", "run 8" + NO, "run -1" + NO},
        {"13 minute", "say 3 0 0 = 0", "say 2 1 9 = 1", "say 5 2 9 = 2", "say 0 3 0 = 3", "set 5 7 = 11",
            "minute 0 0 = 0", "minute 1 0 = 2", "minute 2 0 = 6", "minute 3 0 = -1", "minute 2 1 = 0", "minute 3 1 = 0",
            // FAR in MINUTE 0 is 10: p 46, and 54 * 46 by 100
            "minute 0 1 = 70", "minute 4 0 = -5", "minute -1 2 = -5", "minute 0 2 = -7", "minute 0 -1 = -7",
            "set 5 8 = 7", "minute 2 1 = 100", "minute 3 0 = -1"},
        {"14 judge", "judge 0" + NO, "sheet 0 0 2 = 1", "judge 0" + NO, "say 0 0 0 = 0", "say 0 1 0 = 1",
            "judge 0" + NO, "cell 0 1 1 = 1", "judge 0 = 5360000", "cell 0 0 1 = 1", "cell 0 1 0 = 1",
            "judge 0 = 5520000", "cell 0 0 2 = 1", "judge 0" + NO, "cell 0 0 -1 = 1", "judge 0" + NO, "sheet 1 2 3 = 1",
            "judge 1" + NO, "sheet 1 2 1 = 1", "judge 1 = 2700000", "judge 4" + NO, "judge -1" + NO},
        {"15 best", "best 0 = 0", "best 1 = 0", "best 2 = 0", FALLING, "text = 1", "force 1 = 0", "say 0 5 0 = 0",
            "say 0 0 0 = 1", "best 0 = 21", "best 1 = 9900000", "best 2 = 800000", "best 3" + NO, "best -1" + NO},
        {"15 best of like ones", FALLING, "text = 1", "force 1 = 0", "say 0 0 0 = 0", "say 0 0 0 = 1", "best 0 = 12",
            "best 2 = 0"},
        {"15 best of some", FALLING, "text = 1", "force 1 = 0", "say 0 5 0 = 0", "say 0 0 0 = 1", "say 0 2 0 = 2",
            "best 0 = 231", "best 1 = 14300000", "say 0 4 0 = 3", "best 0 = 2341", "say 0 1 0 = 4", "best 0 = 25341"},
        // exchanges of places 0 and 5, then 1 and 4, then 2 and 3
        {"15 best of six", FALLING, "text = 1", "force 1 = 0", "say 0 5 0 = 0", "say 0 4 0 = 1", "say 0 3 0 = 2",
            "say 0 2 0 = 3", "say 0 1 0 = 4", "say 0 0 0 = 5", "run 0 = 17400000", "best 0 = 654321",
            "best 1 = 23100000", "best 2 = 5700000"},
        {"16 side", "side = 0", "say 0 0 0 = 0", "side = 0", "tape had far * 4 ; chalk 0 ; takes 1 ;", "text = 1",
            "force 1 = 0", "side = 15", "count 0 = 4", "set 1 0 = 2", "side = 20"},
        {"17 leave", "leave = -1", "tape had 100 - minute * 50 ; chalk 0 ; takes 1 ;", "text = 1", "force 1 = 0",
            "say 0 5 0 = 0", "leave = -1", "say 0 0 0 = 1", "leave = 0", "count 6 = 2"},
        {"17 leave what is worth nothing", "tape had 50 ; chalk 0 ; takes 1 ;", "text = 1", "force 1 = 0",
            "say 0 0 0 = 0", "say 4 0 0 = 1", "say 4 1 0 = 2", "leave = 1"},
    };

    private static final String[][] WORDS = {
        {"18 word", "word 9999 99 = 0", "word 0 0 = 1", "word 10000 0 = -2", "word -1 0 = -2", "word 0 100 = -2",
            "word 0 -1 = -2", "word 7 1 = 2", "word 7 1 = 3", "word 7 1 = 4", "word 7 1 = 5", "word 7 1 = -4",
            "word -1 1 = -2", "taken 0 6 = 9999", "count 7 = 6"},
        {"19 mistake", "mistake 0 0 1 = -1", "word 1 1 = 0", "word 2 1 = 1", "mistake 0 0 99 = 10", "mistake 0 1 5 = 0",
            "mistake 1 0 6 = 0", "mistake 0 1 0 = 5", "mistake 0 0 100 = -2", "mistake 0 0 -1 = -2", "mistake 0 2 100 = -1",
            "mistake 2 0 0 = -1", "mistake -1 0 0 = -1", "mistake 0 0 7 = 99", "mistake 1 0 6 = 6"},
        // of WORD 0: 3 * 5 by 15; of 1: 2 * 10 by 10, heard as 1
        {"20 odds", "word 1 3 = 0", "word 2 2 = 1", "mistake 0 1 5 = 0", "odds 1 0 0 = 1", "odds 1 0 1 = 3",
            "odds 1 1 0 = 2", "odds 1 1 1 = 3", "odds 0 0 0 = 1", "odds 0 0 1 = 1", "odds 0 1 0 = 0", "odds 0 1 1 = 1",
            "odds 2 0 0" + NO, "odds 0 2 0" + NO, "odds -1 0 0" + NO, "odds 0 0 2" + NO, "odds 0 0 -1" + NO,
            "mistake 0 0 0 = 10", "odds 0 0 0 = 0", "odds 0 0 1 = 1"},
        {"21 was", "was 0 = -5", "word 1 3 = 0", "word 2 3 = 1", "was 1 = 1", "mistake 0 1 99 = 0", "mistake 0 0 0 = 10",
            "was 1 = 0", "was 0 = -1", "was 2 = -5", "was -1 = -5", "mistake 1 0 30 = 0", "was 0 = 1"},
        {"22 list", "list 0 0 = 0", "list 1 0 = -2", "word 1 1 = 0", "word 2 1 = 1", "word 3 1 = 2", "mistake 0 1 4 = 0",
            "mistake 1 0 3 = 0", "mistake 0 2 2 = 0", "mistake 2 1 2 = 0", "list 2 0 = 5", "list 2 1 = 2", "list 3 0 = 7",
            "list 3 1 = 11", "list 1 0 = 1", "list 1 1 = 0", "list 0 1 = 0", "list 4 0 = -2", "list -1 0 = -2",
            "list 1 2 = -2", "list 1 -1 = -2"},
        {"23 bits", "word 1234 0 = 0", "word 1200 0 = 1", "word 4 0 = 2", "bits 1299 3 = 3", "bits 4 8 = 5",
            "bits 4 15 = 4", "bits 0 1 = 4", "bits 200 2 = 3", "bits 30 4 = 1", "bits 9999 0 = 7", "bits 9999 15 = 0",
            "bits 10000 0 = -2", "bits -1 0 = -2", "bits 0 16 = -2", "bits 0 -1 = -2"},
        {"24 ask", "ask 0 0 0 = 0", "ask 0 0 1 = 0", "word 1111 0 = 0", "word 1121 0 = 1", "word 1131 0 = 2",
            "word 2131 0 = 3", "ask 0 0 0 = 2", "ask 0 0 1 = 2", "ask 1000 1 1 = 1", "ask 1000 1 0 = 2",
            "ask 1111 13 0 = 1", "ask 1111 13 1 = 1", "ask 0 4 0 = 0", "ask 0 4 1 = 0", "ask 0 15 0 = -1",
            "ask 0 15 1 = -1", "ask 10000 0 0 = -2", "ask -1 0 0 = -2", "ask 0 16 0 = -2", "ask 0 -1 0 = -2",
            "ask 0 0 2 = -2", "ask 0 0 -1 = -2"},
        // 10 sure to 2, 40 sure to 4: (40 and 80) by 6, 8 by 6
        {"25 clocks", "clocks 10 40 204 0 = 20", "clocks 10 40 204 1 = 1", "clocks 10 40 204 2 = 4",
            "clocks 10 40 204 3 = 3", "clocks -1 0 101 0 = -1", "clocks -1 0 101 1 = 2", "clocks 5 -5 9999 0 = 0",
            "clocks 5 -5 9999 1 = 1", "clocks 9999 -9999 9901 0 = -489951", "clocks 9999 -9999 9901 1 = 50",
            "clocks 10000 0 101 0" + NO, "clocks 0 -10000 101 0" + NO, "clocks 0 0 100 0" + NO, "clocks 0 0 99 0" + NO,
            "clocks 0 0 10001 0" + NO, "clocks 0 0 -101 0" + NO, "clocks 0 0 101 4" + NO, "clocks 0 0 101 -1" + NO},
    };

    private static final String[][] BOOKS = {
        {"26 print", "print 3 365 60 9 = 0", "print 0 0 0 0 = 1", "print 4 0 0 0 = -2", "print -1 0 0 0 = -2",
            "print 0 366 0 0 = -2", "print 0 -1 0 0 = -2", "print 0 0 61 0 = -2", "print 0 0 -1 0 = -2",
            "print 0 0 0 10 = -2", "print 0 0 0 -1 = -2", "count 8 = 2", "print 1 0 0 0 = 2", "print 1 0 0 0 = 3",
            "print 1 0 0 0 = 4", "print 1 0 0 0 = 5", "print 1 0 0 0 = 6", "print 1 0 0 0 = 7", "print 1 0 0 0 = 8",
            "print 1 0 0 0 = 9", "print 1 0 0 0 = -4", "print 4 0 0 0 = -2"},
        {"27 printed", "printed 0 0 = -5", "print 3 365 60 9 = 0", "print 1 2 4 5 = 1", "printed 0 0 = 3",
            "printed 0 1 = 365", "printed 0 2 = 60", "printed 0 3 = 9", "printed 1 0 = 1", "printed 1 1 = 2",
            "printed 1 2 = 4", "printed 1 3 = 5", "printed 0 4 = -7", "printed 0 -1 = -7", "printed 2 4 = -5",
            "printed -1 0 = -5"},
        // 0 and 2 by 1; 3 is another SHIP's; 4 two DAYS off; 5 three CELLS off
        {"28, 29 join, met", "print 0 10 10 0 = 0", "print 0 11 12 0 = 1", "print 0 12 14 0 = 2", "print 1 11 12 0 = 3",
            "print 0 14 14 0 = 4", "print 0 9 7 0 = 5", "join 0 = 7", "join 2 = 7", "join 3 = 8", "join 4 = 16",
            "join 5 = 32", "join 6 = -5", "join -1 = -5", "met 0 = 3", "met 1 = 1", "met 2 = 0", "met 4 = -5",
            "met -1 = -5"},
        {"30 falseOnes", "falseOnes 0 0 = 0", "print 0 10 10 0 = 0", "print 0 12 20 0 = 1", "falseOnes 0 5 = 0",
            "falseOnes 0 4 = 1", "print 0 14 30 0 = 2", "falseOnes 0 4 = 3", "falseOnes 0 5 = 0", "print 0 14 31 0 = 3",
            "falseOnes 0 5 = 8", "falseOnes 0 60 = 4", "falseOnes 1 0 = 0", "falseOnes 4 61 = -5", "falseOnes -1 0 = -5",
            "falseOnes 0 61 = -7", "falseOnes 0 -1 = -7"},
        // all CELLS: 2 to the 61st less 1
        {"31 there", "there 0 0 0 = 2305843009213693951", "print 0 10 10 0 = 0", "there 0 2 11 = 7936", "there 0 2 9 = 7936",
            "there 0 60 10 = 1024", "there 0 0 365 = 1024", "print 0 12 14 0 = 1", "there 0 2 11 = 4096",
            "there 0 1 11 = 57344", "there 1 0 0 = 2305843009213693951", "there 4 0 0" + NO, "there -1 0 0" + NO,
            "there 0 61 0" + NO, "there 0 -1 0" + NO, "there 0 0 366" + NO, "there 0 0 -1" + NO},
        {"32 last", "last 0 0 0 = -1", "last 0 0 1 = -1", "print 0 10 10 0 = 0", "print 0 10 10 1 = 1",
            "print 0 20 60 0 = 2", "last 0 5 0 = 20", "last 0 5 1 = 60", "last 0 4 0 = 10", "last 0 4 1 = 10",
            "print 0 20 55 0 = 3", "last 0 5 1 = 55", "last 0 4 0 = 10", "last 4 61 2 = -5", "last -1 0 0 = -5",
            "last 0 61 0 = -7", "last 0 -1 0 = -7", "last 0 0 2 = -7", "last 0 0 -1 = -7"},
        // on DAY 11 in 8 .. 12
        {"33 cellOdds", "cellOdds 0 0 0 0 0 = 1", "cellOdds 0 0 0 0 1 = 61", "cellOdds 0 0 0 1 1 = 1",
            "cellOdds 0 0 1 1 1 = 60", "print 0 10 10 0 = 0", "cellOdds 0 2011 12 0 0 = 1", "cellOdds 0 2011 12 0 1 = 5",
            "cellOdds 0 2011 13 0 0 = 0", "cellOdds 0 2011 13 0 1 = 1", "cellOdds 0 2011 12 256 1 = 4",
            "cellOdds 0 2011 12 4096 0 = 0", "cellOdds 0 2011 12 129 1 = 5", "cellOdds 0 2011 12 -1 0 = 0",
            "cellOdds 0 2011 12 -1 1 = 1", "cellOdds 0 2011 61 0 0" + NO, "cellOdds 0 2011 -1 0 0" + NO,
            "cellOdds 0 2366 0 0 0" + NO, "cellOdds 0 61000 0 0 0" + NO, "cellOdds 0 -1 0 0 0" + NO,
            "cellOdds 4 0 0 0 0" + NO, "cellOdds -1 0 0 0 0" + NO, "cellOdds 0 0 0 0 2" + NO, "cellOdds 0 0 0 0 -1" + NO},
    };

    private static final String[][] NEWS = {
        {"34 meet", "meet 5 0 1 = 0", "meet 5 3 2 = 1", "meet 4 0 1 = -3", "meet 4 0 0 = -2", "meet 6 0 0 = -2",
            "meet 366 0 1 = -2", "meet -1 0 1 = -2", "meet 6 4 0 = -2", "meet 6 0 4 = -2", "meet 6 -1 0 = -2",
            "meet 365 1 0 = 2", "meet 364 1 0 = -3", "count 9 = 3"},
        {"35 news", "meet 1 0 1 = 0", "meet 5 2 0 = 1", "meet 6 1 2 = 2", "meet 9 1 3 = 3", "news 0 0 0 = 0",
            "news 0 0 1 = 1", "news 0 1 1 = 1", "news 0 2 1 = 6", "news 0 0 3 = 9", "news 3 0 0 = -1", "news 1 6 0 = -1",
            "news 0 365 0 = 365", "news 4 0 0 = -5", "news 0 0 4 = -5", "news -1 366 0 = -5", "news 0 366 0 = -7",
            "news 0 -1 0 = -7"},
        {"36 peace", "meet 1 0 1 = 0", "meet 5 2 0 = 1", "meet 6 1 2 = 2", "meet 9 1 3 = 3", "peace 0 0 0 = 1",
            "peace 0 0 1 = 2", "peace 0 0 8 = 3", "peace 0 0 9 = 4", "peace 0 2 5 = 2", "peace 0 2 1 = 0",
            "peace 3 0 365 = 2", "peace 4 0 0 = -5", "peace -1 0 366 = -5", "peace 0 366 0 = -7", "peace 0 0 366 = -7",
            "peace 0 -1 0 = -7", "peace 0 0 -1 = -7"},
        // without 0, SHIP 1 knows by 2 on DAY 6; SHIP 3 knows on DAY 9 all the same, but not without 3
        {"37 key", "meet 1 0 1 = 0", "meet 5 2 0 = 1", "meet 6 1 2 = 2", "meet 9 1 3 = 3", "key 0 0 1 = 0",
            "key 0 0 3 = 3", "key 0 2 1 = 1", "key 0 0 0 = -1", "key 3 0 0 = -1", "key 4 0 0 = -5", "key 0 0 4 = -5",
            "key -1 366 0 = -5", "key 0 366 0 = -7", "key 0 -1 0 = -7"},
        // LOTS by SEED 0: 48271, 182605794, 1291394886: 71, 94, 86 of 100
        {"38 drawn", "drawn 0 0 = 0", "tape had 72 * (1 - minute) ; chalk 95 ; takes 1 ;", "text = 1", "force 1 = 0",
            "say 0 1 0 = 0", "say 0 0 0 = 1", "say 4 2 0 = 2", "drawn 0 0 = 6", "drawn 0 1 = 5", "drawn 0 2 = 12",
            "say 4 2 0 = 3", "drawn 0 0 = 6", "drawn 0 1 = 13", "drawn 0 2 = 12", "set 5 1 = 11", "drawn 0 1 = 1",
            "say 5 3 9 = 4", "drawn 99999 1 = 1",
            "drawn 100000 0 = -2", "drawn -1 0 = -2", "drawn 0 3 = -2", "drawn 0 -1 = -2"},
        // SEED 99 draws 4827100: 0 of 100
        {"38 drawn as likely as the LOT", "tape had 71 - minute * 70 ; chalk 0 ; takes 1 ;", "text = 1", "force 1 = 0",
            "say 0 0 0 = 0", "drawn 0 1 = 0", "drawn 99 1 = 1", "tape had word ; chalk 0 ; takes 1 ;", "text = 2",
            "force 2 = 1", "say 0 1 0 = 1", "drawn 99 1 = 2", "drawn 99 2 = 7"},
        {"39, 40 image, back", "back = -3", "word 1 1 = 0", "mistake 0 0 7 = 10", "set 0 9 = 4", "want 0 50 = 9",
            "say 0 0 0 = 0", FALLING, "text = 1", "force 1 = 0", "image = 1", "set 0 1 = 9", "set 1 1 = 2", "set 2 1 = 0",
            "set 3 1 = 3", "set 4 1 = 0", "set 5 1 = 11", "want 0 1 = 50", "mistake 0 0 8 = 7", "force 0 = 1",
            "word 2 2 = 1", "mistake 0 1 3 = 0", "mistake 1 0 4 = 0", "mistake 1 1 5 = 10", "say 1 1 1 = 1", "back = 2",
            "count 0 = 9", "count 1 = 2", "count 2 = 0", "count 3 = 3", "count 4 = 0", "count 5 = 11", "count 11 = 1",
            "want 0 1 = 50", "mistake 0 0 1 = 7", "mistake 0 1 1 = 3", "mistake 1 0 1 = 4", "mistake 1 1 1 = 5",
            "count 7 = 2", "back = 2", "want 0 1 = 50", "image = 2", "back = 2", "want 0 9 = 1"},
    };

    private static final String[][] THE_HOST = {
        {"41 sheet", "sheet 0 0 40 = 1", "cell 0 39 1 = 1", "cell 0 40 1 = -12", "sheet 0 2 0 = 1", "cell 0 0 1 = -12",
            "sheet 0 -1 41 = 1", "cell 0 0 1 = -11", "sheet 0 -1 -1 = 1", "sheet 4 0 1 = -2", "sheet -1 0 1 = -2",
            "sheet 0 3 1 = -2", "sheet 0 -2 1 = -2", "sheet 0 0 41 = -2", "sheet 0 0 -1 = -14", "sheet 4 0 -1 = -2",
            "say 0 0 0 = 0", "say 0 1 0 = 1", "sheet 3 1 1 = 1", "cell 3 0 1 = 1", "judge 3 = 2100000", "sheet 3 1 1 = 1",
            "judge 3 = 2700000"},
        {"42 cell", "say 0 0 0 = 0", "say 0 1 0 = 1", "sheet 0 0 1 = 1", "cell 0 0 257 = 1", "judge 0 = 2100000",
            "cell 0 0 255 = 1", "judge 0" + NO, "sheet 1 1 1 = 1", "cell 1 0 65537 = 1", "judge 1 = 2100000",
            "cell 1 0 257 = 1", "judge 1" + NO, "sheet 2 2 1 = 1", "cell 2 0 65537 = 1", "judge 2" + NO, "cell 2 0 1 = 1",
            "judge 2 = 2100000", "cell 4 0 0 = -2", "cell -1 0 0 = -2", "cell 3 0 0 = -11", "cell 0 1 0 = -12",
            "cell 0 -1 0 = -12"},
        // 0 1 2 of three SAYINGS; one place on, as they were: 0 0 1; then the last two to a SHEET of two
        {"43 copy", "say 0 0 0 = 0", "say 0 1 0 = 1", "say 0 2 0 = 2", "sheet 0 0 3 = 1", "cell 0 1 1 = 1", "cell 0 2 2 = 1",
            "copy 0 0 0 1 2 = 2", "sheet 1 0 2 = 1", "copy 0 1 1 0 2 = 2", "judge 1 = 5360000", "copy 0 2 0 0 1 = 1",
            "copy 0 0 1 0 2 = 2", "judge 1 = 5520000", "copy 0 0 1 0 3 = -12", "copy 0 2 1 0 2 = -12",
            "copy 0 0 1 1 2 = -12", "copy 0 -1 1 0 1 = -12", "copy 0 0 1 -1 1 = -12", "copy 0 0 1 0 -1 = -12",
            "copy 0 0 1 0 0 = 0", "sheet 2 1 3 = 1", "copy 0 0 2 0 1 = -13", "copy 0 9 2 0 -1 = -13", "copy 0 0 3 0 1 = -11",
            "copy 3 0 0 0 1 = -11", "copy 4 0 0 0 1 = -2", "copy 0 0 -1 0 1 = -2", "copy 0 0 4 0 1 = -2",
            "judge 1 = 5520000"},
        {"44 sayingsBy", "sheet 0 2 8 = 1", "cell 0 1 3 = 1", "cell 0 2 1 = 1", "cell 0 3 2 = 1", "cell 0 4 9 = 1",
            "cell 0 6 1 = 1", "sayingsBy 0 2 1 2 = 1", "told 0 0 0 = 3", "told 0 0 1 = 1", "told 0 0 2 = 2",
            "sayingsBy 0 2 0 3 = -12", "count 6 = 2", "told 1 0 0 = 0", "told 1 0 1 = 3", "told 1 0 2 = 1",
            "sayingsBy 0 2 6 1 = -12", "sayingsBy 0 2 -1 1 = -12", "sayingsBy 0 2 5 1 = 1", "sayingsBy 0 2 0 0 = 0",
            "sayingsBy 4 2 0 1 = -2", "sayingsBy 0 3 0 1 = -2", "sayingsBy 0 -1 0 1 = -2", "sayingsBy 0 2 0 9 = -2",
            "sayingsBy 0 2 0 -1 = -2", "sayingsBy 1 2 0 1 = -11", "sayingsBy 0 1 0 1 = -13", "sheet 3 0 24 = 1",
            "sayingsBy 3 0 0 8 = 5", "count 6 = 8", "sayingsBy 3 0 0 8 = 0"},
        {"45 taken", "word 42 1 = 0", "say 3 0 0 = 0", "say 5 0 0 = 1", "say 2 0 0 = 2", "taken 0 6 = 42", "taken 0 0 = -13",
            "taken 6 3 = 0", "taken 6 1 = 0", "taken 6 0 = 0", "taken 6 4 = -13", "taken 6 6 = -13", "taken 7 5 = 1",
            "taken 7 4 = 1", "taken 7 0 = 1", "taken 7 1 = -13", "taken 8 2 = 2", "taken 8 0 = 2", "taken 8 3 = -13",
            "taken 1 6 = -11", "taken 5 0 = -11", "taken 9 0 = -11", "taken 13 0 = -11", "taken 14 0 = -12",
            "taken -1 0 = -12", "taken 14 7 = -2", "taken 0 7 = -2", "taken 0 -1 = -2"},
    };

    public static void main(String[] args) {
        for (String[][] part : new String[][][] {THE_PASS, THE_LAW, ROWS, WORDS, BOOKS, NEWS, THE_HOST}) {
            for (String[] promise : part) {
                go(promise[0], Arrays.asList(promise).subList(1, promise.length));
            }
        }
        fullTape();
        fullMeetings();
        check.end();
    }

    private static void go(String promise, List<String> lines) {
        ThroughATrumpet x = new ThroughATrumpet();
        for (String line : lines) {
            if (line.startsWith("tape ")) {
                Calls.answers(x, Calls.feeds(line.substring(5)));
            } else {
                String[] sides = line.split(" = ");
                check.due("promise " + promise + ": " + sides[0], Calls.call(x, sides[0]), Long.parseLong(sides[1]));
            }
        }
    }

    private static void fullTape() {
        ThroughATrumpet x = new ThroughATrumpet();
        for (int n = 8; n <= 152; n += 8) {
            check.due("promise 6: feed to " + n, x.feed(0, 8), n);
        }
        check.due("promise 6: feed to 159", x.feed(0, 7), 159);
        check.due("promise 6: two more", x.feed(0, 2), ThroughATrumpet.FULL);
        check.due("promise 6: one more", x.feed(0, 1), 160);
        check.due("promise 6: and one", x.feed(0, 1), ThroughATrumpet.FULL);
        check.due("promise 6: 0 bytes", x.feed(0, 0), ThroughATrumpet.BAD);
    }

    private static void fullMeetings() {
        ThroughATrumpet x = new ThroughATrumpet();
        for (int m = 0; m < 24; m++) {
            check.due("promise 34: meet " + m, x.meet(m, m % 3, 3), m);
        }
        check.due("promise 34: one more", x.meet(23, 0, 1), ThroughATrumpet.FULL);
        check.due("promise 34: one more, too early", x.meet(22, 0, 1), ThroughATrumpet.STATE);
        check.due("promise 34: one more, alike", x.meet(23, 1, 1), ThroughATrumpet.BAD);
    }
}
