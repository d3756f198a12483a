/** Runs for the sentences of the document's second part of terms, the language, in their order. */
final class SentencesOfTexts {
    private static final String FULL = "hour 1;".repeat(24);
    private static final String SIGNS = ";".repeat(300);
    private static final String LAST = ";".repeat(299) + "1";
    private static final String WIDE = "(" + "1-1+".repeat(71) + "1)";
    private static final String LONG = " ".repeat(294) + "lay 1;";

    static final String TOKENS = """
        says terms: TEXTS 0 .. 3:
        read melts 1; = 0
        read melts 2; = 1
        read melts 3; = 2
        by(3) = false
        played(3) = -2
        read melts 4; = 3
        by(3) = true
        by(4) = false
        read melts 5; = -1
        about(2) = 4

        says terms: of up to 300 bytes.
        read LONG = 0
        played(0) = -1
        is(3) = 2
        tape LONG
        about(7) = 300
        feed(0, 0, 0, 0, 0) = -1
        about(7) = 300

        says terms: of up to 300 bytes.
        name(1, 0)
        read SIGNS = -1
        fault(0) = 1
        fault(1) = 0
        read LAST = -1
        fault(0) = 1
        fault(1) = 0
        12 times read melts 1+WIDE) = -1
        fault(0) = 1
        read melts 1+WIDE; = 0
        by(0)
        law(0, 0, 0) = 2
        read melts 1+WIDE; = 1
        read melts 2+WIDE; = 2
        read melts 3+WIDE; = 3
        law(0, 0, 0) = 2
        by(3)
        law(0, 0, 0) = 4
        by(1)
        law(0, 0, 0) = 2

        says terms: TOKENS, blanks (32, 10) aside:
        name(1, 0)
        read \\n melts \\n\\n  1 \\n+ 2 ;\\n = 0
        by(0)
        law(0, 0, 0) = 3
        read   = 1
        read melts\\t1; = -1
        fault(0) = 1
        fault(1) = 5
        read melts\\x0d1; = -1
        fault(0) = 1
        fault(1) = 5
        read \\0melts 1; = -1
        fault(0) = 1
        fault(1) = 0
        read melts\\xa01; = -1
        fault(0) = 1
        fault(1) = 5

        says terms: letters a .. z, A .. Z one behind the other (one TOKEN),
        name(1, 0)
        read melts1; = 0
        by(0)
        law(0, 0, 0) = 1
        read me lts 1; = -1
        fault(0) = 1
        fault(1) = 0
        read meltswarm; = -1
        fault(0) = 1
        fault(1) = 0
        read melts warmZ; = -1
        fault(0) = 1
        fault(1) = 6
        read melts warmz; = -1
        fault(1) = 6
        read melts warma; = -1
        fault(1) = 6
        read melts warmA; = -1
        fault(1) = 6
        read melts warm`; = -1
        fault(1) = 10
        read melts warm{; = -1
        fault(1) = 10
        read melts warm@; = -1
        fault(1) = 10
        read melts warm[; = -1
        fault(1) = 10
        read MELTS 1; = -1
        fault(0) = 1
        fault(1) = 0
        read melts Warm; = -1
        fault(0) = 1
        fault(1) = 6

        says terms: digits likewise (NUMBERS, 0 .. 9999),
        name(1, 0)
        read melts 9999-9900; = 0
        by(0)
        law(0, 0, 0) = 99
        read melts 0; = 1
        by(1)
        law(0, 0, 0) = 0
        read melts 10000; = -1
        fault(0) = 2
        fault(1) = 6
        read melts 1 2; = -1
        fault(0) = 1
        fault(1) = 8
        read melts 1:; = -1
        fault(0) = 1
        fault(1) = 7
        read melts 1.5; = -1
        fault(0) = 1
        fault(1) = 7

        says terms: <= >= < > = # + - * / ( ) ; (the longest).
        name(1, 0)
        read melts if 2<=2 then if 2>=2 then 1 else 2 end else 3 end; = 0
        by(0)
        law(0, 0, 0) = 1
        read melts if 1< =2 then 1 else 2 end; = -1
        fault(0) = 1
        fault(1) = 12
        read melts if 1<<2 then 1 else 2 end; = -1
        fault(0) = 1
        fault(1) = 11
        read melts if 1<>2 then 1 else 2 end; = -1
        fault(0) = 1
        fault(1) = 11
        read melts if 1=<2 then 1 else 2 end; = -1
        fault(0) = 1
        fault(1) = 11
        read melts if 1==2 then 1 else 2 end; = -1
        fault(0) = 1
        fault(1) = 11
        read melts if 1<==2 then 1 else 2 end; = -1
        fault(0) = 1
        fault(1) = 12
        read melts if 1#=2 then 1 else 2 end; = -1
        fault(0) = 1
        fault(1) = 11
        read melts 1&2; = -1
        fault(0) = 1
        fault(1) = 7
        read melts if 1!2 then 1 else 2 end; = -1
        fault(0) = 1
        fault(1) = 10
        """;

    static final String CLAUSES = """
        says terms: {CLAUSE}, 24 at most:
        read  = 0
        played(0) = -1
        about(4) = 0
        read FULL = 1
        played(1) = -1
        is(0) = 24
        read FULLhour 1; = -1
        fault(0) = 6
        fault(1) = 168
        read FULL  = 2
        about(2) = 3

        says terms: melts SUM ; or breaks SUM ; or claims SUM ; (each once)
        name(1, 0)
        family(1, 1)
        read claims 4;melts 5;breaks 6; = 0
        by(0)
        law(0, 0, 0) = 5
        law(0, 0, 1) = 6
        law(0, 0, 2) = 4
        read melts 1;breaks 1;melts 2; = -1
        fault(0) = 4
        read breaks 1;claims 1;breaks 2; = -1
        fault(0) = 4
        read claims 1;claims 2; = -1
        fault(0) = 4
        read melts; = -1
        fault(0) = 1
        fault(1) = 5
        read melts 1 = -1
        fault(0) = 1
        fault(1) = 7
        read breaks 1 claims 1; = -1
        fault(0) = 1
        fault(1) = 9

        says terms: or name NUMBER in NUMBER ; (SOUNDS of 1 .. 4 digits 1 .. 9, LAYER)
        read name 1 in 0;name 9999 in 9;name 47 in 5; = 0
        played(0) = -1
        of(0, 0) = 1
        of(0, 1) = 0
        of(1, 0) = 9999
        of(1, 1) = 9
        of(2, 0) = 47
        of(2, 1) = 5
        about(0) = 3
        read name 11111 in 0; = -1
        fault(0) = 2
        fault(1) = 5
        read name 12 at 0; = -1
        fault(0) = 1
        fault(1) = 8
        read name 12 0; = -1
        fault(0) = 1
        fault(1) = 8
        read name in 0; = -1
        fault(0) = 1
        fault(1) = 5
        read name 12 in; = -1
        fault(0) = 1
        fault(1) = 10
        read name 12 in 1+1; = -1
        fault(0) = 1
        fault(1) = 12
        read name (12) in 1; = -1
        fault(0) = 1
        fault(1) = 5

        says terms: or family NUMBER at NUMBER ; (NET, CELL)
        read family 1 at 0;family 9 at 9;family 3 at 7; = 0
        played(0) = -1
        ofFamily(0, 0) = 1
        ofFamily(0, 1) = 0
        ofFamily(1, 0) = 9
        ofFamily(1, 1) = 9
        ofFamily(2, 0) = 3
        ofFamily(2, 1) = 7
        about(1) = 3
        read family 1 in 0; = -1
        fault(0) = 1
        fault(1) = 9
        read family -1 at 0; = -1
        fault(0) = 1
        fault(1) = 7

        says terms: or call NUMBER ;
        6 times name(1, 9)
        read call 0;call 5; = 0
        played(0) = -1
        frozen() = 30
        about(4) = 2
        read call; = -1
        fault(0) = 1
        fault(1) = 4
        read call 0 1; = -1
        fault(0) = 1
        fault(1) = 7

        says terms: or lay NUMBER ; or take NUMBER ; (CELL)
        read lay 0;lay 9;lay 4;take 9; = 0
        played(0) = -1
        is(3) = 17
        about(4) = 4
        read lay; = -1
        fault(0) = 1
        fault(1) = 3
        read take ice 0; = -1
        fault(0) = 1
        fault(1) = 5

        says terms: or stand NUMBER at NUMBER ; (FAMILY)
        5 times family(1, 5)
        read stand 0 at 9;stand 4 at 0; = 0
        played(0) = -1
        ofFamily(0, 1) = 9
        ofFamily(4, 1) = 0
        ofFamily(1, 1) = 5
        about(4) = 2
        read stand 0; = -1
        fault(0) = 1
        fault(1) = 7
        read stand 0 in 1; = -1
        fault(0) = 1
        fault(1) = 8

        says terms: or sink NUMBER ;
        6 times name(1, 9)
        family(1, 2)
        call(5)
        hour(1) = 1
        read sink 5; = 0
        played(0) = -1
        of(5, 3) = 0
        read sink; = -1
        fault(0) = 1
        fault(1) = 4

        says terms: or hour NUMBER ;.
        read hour 1;hour 60; = 0
        played(0) = -1
        is(0) = 61
        about(4) = 30
        read hour; = -1
        fault(0) = 1
        fault(1) = 4
        read hour 1 = -1
        fault(0) = 1
        fault(1) = 6
        read hour warm; = -1
        fault(0) = 1
        fault(1) = 5
        """;

    static final String SUMS = """
        says terms: SUM: PRODUCT {+ or - PRODUCT}.
        name(1, 0)
        read melts 1+2*3-4*5; = 0
        by(0)
        law(0, 0, 0) = -13
        read melts 1+; = -1
        fault(0) = 1
        fault(1) = 8
        read melts +1; = -1
        fault(0) = 1
        fault(1) = 6
        read melts 1++1; = -1
        fault(0) = 1
        fault(1) = 8
        read melts 1--1; = 1
        by(1)
        law(0, 0, 0) = 2

        says terms: PRODUCT: ONE {* or / ONE}.
        name(1, 0)
        read melts 2*3*4/5; = 0
        by(0)
        law(0, 0, 0) = 4
        read melts 2*; = -1
        fault(0) = 1
        fault(1) = 8
        read melts *2; = -1
        fault(0) = 1
        fault(1) = 6
        read melts 2*-3; = 1
        by(1)
        law(0, 0, 0) = -6

        says terms: ONE: NUMBER, NAME, ( SUM ), - ONE,
        name(1, 7)
        read melts 3; = 0
        by(0)
        law(0, 0, 0) = 3
        read melts layer; = 1
        by(1)
        law(0, 0, 0) = 7
        read melts 2*(3+4)-(5); = 2
        by(2)
        law(0, 0, 0) = 9
        read melts -layer+9*-(2-1)--3; = 3
        by(3)
        law(0, 0, 0) = -13
        back()
        read melts (); = -1
        fault(0) = 1
        fault(1) = 7
        read melts (1; = -1
        fault(0) = 1
        fault(1) = 8
        read melts 1); = -1
        fault(0) = 1
        fault(1) = 7
        read melts -; = -1
        fault(0) = 1
        fault(1) = 7
        read melts (1<2); = -1
        fault(0) = 1
        fault(1) = 8

        says terms: digit ONE of ONE (of the second, sign aside, the digit that has as many behind it as the first says;
        name(98765, 0)
        read melts digit 0 of sounds*10+digit 1 of sounds; = 0
        by(0)
        law(0, 0, 0) = 56
        read melts digit 2 of sounds*10+digit 4 of sounds; = 1
        by(1)
        law(0, 0, 0) = 79
        read melts digit 3 of -sounds*10+digit 0 of -7; = 2
        by(2)
        law(0, 0, 0) = 87
        read melts digit 6 of (9999*9999)*10+digit 5 of (9999*-99); = 3
        by(3)
        law(0, 0, 0) = 19

        says terms: digit ONE of ONE (of the second, sign aside, the digit that has as many behind it as the first says;
        name(98765, 0)
        read melts digit 1+1 of sounds; = -1
        fault(0) = 1
        fault(1) = 13
        read melts digit 1 sounds; = -1
        fault(0) = 1
        fault(1) = 14
        read melts digit 1 of; = -1
        fault(0) = 1
        fault(1) = 16
        read melts digit of 1; = -1
        fault(0) = 1
        fault(1) = 12
        read melts digit digit 0 of 2 of 345+1; = 0
        by(0)
        law(0, 0, 0) = 4
        read melts digit 0 of digit 1 of 2345*2; = 1
        by(1)
        law(0, 0, 0) = 8

        says terms: digit ONE of ONE (of the second, sign aside, the digit that has as many behind it as the first says;
        name(99999, 0)
        read melts digit 2 of 100+digit 2 of 199+digit 3 of 1000+digit 3 of 1999; = 0
        by(0)
        law(0, 0, 0) = 4
        read melts digit 4 of 9999*10+digit 4 of(9999+1)+digit 5 of sounds*20; = 1
        by(1)
        law(0, 0, 0) = 1
        read melts digit 5 of(9999*10+10)+digit 6 of(9999*100+99)*10+digit 6 of(9999*100+100)*20; = 2
        by(2)
        law(0, 0, 0) = 21
        read melts digit 0 of 9+digit 1 of 9*10+digit 1 of 10*20+digit 0 of 10; = 3
        by(3)
        law(0, 0, 0) = 29

        says terms: 0 if there is none, or below 0),
        name(98765, 0)
        read melts digit 5 of sounds; = 0
        by(0)
        law(0, 0, 0) = 0
        read melts digit -1 of sounds+digit -9999 of sounds; = 1
        by(1)
        law(0, 0, 0) = 0
        read melts digit 7 of (9999*9999)+digit 9999 of (9999*9999); = 2
        by(2)
        law(0, 0, 0) = 0
        read melts digit (9999*9999) of sounds+digit -(9999*9999) of sounds+digit 0 of 0; = 3
        by(3)
        law(0, 0, 0) = 0

        says terms: ice ONE (1, if the NAME of that number is in the ice;
        name(1, 9)
        name(1, 9)
        name(1, 9)
        read melts ice 0+ice 1*2+ice 2*4; = 0
        by(0)
        law(0, 0, 0) = 7
        call(1)
        law(0, 0, 0) = 5
        read melts ice who; = 1
        by(1)
        law(0, 0, 0) = 1
        law(1, 0, 0) = 0
        read melts ice 1-1+5; = 2
        by(2)
        law(0, 0, 0) = 4

        says terms: else 0, also for others),
        name(1, 9)
        name(1, 9)
        name(1, 9)
        name(1, 9)
        family(1, 2)
        call(0)
        hour(1) = 1
        call(1)
        stand(0, 9)
        hour(5)
        of(1, 3) = 10
        call(2)
        read melts ice 0+ice 1+ice 2; = 0
        by(0)
        law(0, 0, 0) = 0
        read melts ice 4+ice 5+ice 6+ice 9999; = 1
        by(1)
        law(0, 0, 0) = 0
        read melts ice -1+ice -9999+ice(9999*9999); = 2
        by(2)
        law(0, 0, 0) = 0
        read melts ice 3; = 3
        by(3)
        law(0, 0, 0) = 1

        says terms: if EITHER then SUM else SUM end.
        name(1, 0)
        read melts if 1=1 then 2+3 else 4+5 end*10; = 0
        by(0)
        law(0, 0, 0) = 50
        read melts if 1=2 then 2+3 else 4+5 end*10; = 1
        by(1)
        law(0, 0, 0) = 90
        read melts if 1=2 then 3 end; = -1
        fault(0) = 1
        fault(1) = 20
        read melts if 1=2 else 3 end; = -1
        fault(0) = 1
        fault(1) = 13
        read melts if 1=2 then 3 else 4; = -1
        fault(0) = 1
        fault(1) = 26
        read melts if 1 then 3 else 4 end; = -1
        fault(0) = 1
        fault(1) = 11
        read melts if 1=2 then 3 else 4 end end; = -1
        fault(0) = 1
        fault(1) = 31
        read melts if if 1=1 then 0 else 1 end=0 then if 1=2 then 1 else 2 end else 3 end; = 2
        by(2)
        law(0, 0, 0) = 2

        says terms: EITHER: BOTH {or BOTH}. BOTH: ASK {and ASK}.
        name(1, 0)
        read melts if 1=1 or 1=2 and 1=2 then 1 else 2 end; = 0
        by(0)
        law(0, 0, 0) = 1
        read melts if 1=2 and 1=2 or 1=1 then 1 else 2 end; = 1
        by(1)
        law(0, 0, 0) = 1
        read melts if 1=2 or 1=1 and 1=2 or 2=1 then 1 else 2 end; = 2
        by(2)
        law(0, 0, 0) = 2
        read melts if 1=1 and 1=1 and 1=2 or 1=2 or 1=1 then 1 else 2 end; = 3
        by(3)
        law(0, 0, 0) = 1
        back()
        read melts if 1=1 or then 1 else 2 end; = -1
        fault(0) = 1
        fault(1) = 16
        read melts if 1=1 and or 1=1 then 1 else 2 end; = -1
        fault(0) = 1
        fault(1) = 17

        says terms: ASK: not ASK, or SUM one of < <= > >= = # (unlike) SUM.
        name(1, 9)
        read melts if size<warm then 1 else 0 end+if size<=warm then 2 else 0 end+if size>warm then 4 else 0 end+if size>=warm then 8 else 0 end+if size=warm then 16 else 0 end+if size#warm then 32 else 0 end; = 0
        by(0)
        law(0, 0, 0) = 44
        hour(6)
        is(2) = 1
        law(0, 0, 0) = 26
        hour(1)
        is(2) = 3
        law(0, 0, 0) = 35

        says terms: ASK: not ASK, or SUM one of < <= > >= = # (unlike) SUM.
        name(1, 9)
        read melts if not 1=1 then 1 else 2 end; = 0
        by(0)
        law(0, 0, 0) = 2
        read melts if not not 1=1 then 1 else 2 end; = 1
        by(1)
        law(0, 0, 0) = 1
        read melts if not 1=2 and 1=2 then 1 else 2 end; = 2
        by(2)
        law(0, 0, 0) = 2
        read melts if not (1+1)=3 or 1=2 then 1 else 2 end; = 3
        by(3)
        law(0, 0, 0) = 1
        back()
        read melts if 1=1=1 then 1 else 2 end; = -1
        fault(0) = 1
        fault(1) = 12
        read melts if (1=1) then 1 else 2 end; = -1
        fault(0) = 1
        fault(1) = 11
        read melts if not then 1 else 2 end; = -1
        fault(0) = 1
        fault(1) = 13

        says terms: ASK: not ASK, or SUM one of < <= > >= = # (unlike) SUM.
        name(1, 9)
        read melts if not 1<2 or not 1<=2 or not 2>1 then 1 else 2 end; = 0
        by(0)
        law(0, 0, 0) = 2
        read melts if not 2>=1 or not 1=1 or not 1#2 then 1 else 2 end; = 1
        by(1)
        law(0, 0, 0) = 2
        read melts if not 2<1 and not 2<=1 and not 1>2 then 1 else 2 end; = 2
        by(2)
        law(0, 0, 0) = 1
        read melts if not 1>=2 and not 1=2 and not 1#1 then 1 else 2 end; = 3
        by(3)
        law(0, 0, 0) = 1

        says terms: NAMES: hour, warm, layer, size, who (the NAME), sounds (its SOUNDS as told) in all;
        name(1, 0)
        name(12, 6)
        family(9, 1)
        read breaks 10; = 0
        by(0)
        stone(2, true)
        call(1)
        hour(1)
        of(1, 4) = 1
        read melts hour*10+warm;breaks warm-size;claims size*10+who; = 1
        by(1)
        law(1, 0, 0) = 17
        law(1, 0, 1) = 6
        law(1, 0, 2) = 11
        read melts layer*10+who;breaks sounds-layer;claims sounds*2+layer; = 2
        by(2)
        law(1, 0, 0) = 61
        law(1, 0, 1) = 6
        law(1, 0, 2) = 30
        read melts size+sounds;breaks hour+layer+who;claims hour*10+warm; = 3
        by(3)
        law(1, 0, 0) = 13
        law(1, 0, 1) = 8
        law(1, 0, 2) = 17

        says terms: cell (its CELL of the stream; 0, if it is in none, or milled) in breaks, claims;
        name(1, 9)
        family(1, 9)
        read breaks cell+1;claims cell+2; = 0
        by(0)
        law(0, 0, 1) = 1
        law(0, 0, 2) = 2
        call(0)
        law(0, 0, 1) = 1
        hour(1)
        law(0, 0, 1) = 3
        law(0, 0, 2) = 4
        hour(3)
        law(0, 0, 1) = 9
        law(0, 0, 2) = 10
        hour(1)
        of(0, 3) = 10
        law(0, 0, 1) = 1
        law(0, 0, 2) = 2
        read melts cell; = -1
        fault(0) = 5
        fault(1) = 6

        says terms: cell (its CELL of the stream; 0, if it is in none, or milled) in breaks, claims;
        name(12, 9)
        family(2, 4)
        family(2, 2)
        read breaks cell*5;claims cell-2; = 0
        by(0)
        stone(2, true)
        call(0)
        hour(1) = 0
        of(0, 2) = 1
        of(0, 3) = 2
        hour(1) = 1
        of(0, 3) = 20
        law(0, 0, 1) = 0
        law(0, 0, 2) = -2

        says terms: net, house (the FAMILY) in claims.
        name(1, 9)
        family(4, 1)
        family(7, 1)
        read claims net*10+house; = 0
        by(0)
        law(0, 0, 2) = 40
        law(0, 1, 2) = 71
        read melts net; = -1
        fault(0) = 5
        fault(1) = 6
        read melts house; = -1
        fault(0) = 5
        read breaks net; = -1
        fault(0) = 5
        fault(1) = 7
        read breaks house; = -1
        fault(0) = 5

        says terms: From the left;
        name(1, 0)
        read melts 20-5-3; = 0
        by(0)
        law(0, 0, 0) = 12
        read melts 60/5/3; = 1
        by(1)
        law(0, 0, 0) = 4
        read melts 7/2*2; = 2
        by(2)
        law(0, 0, 0) = 6
        read melts 20-5+3; = 3
        by(3)
        law(0, 0, 0) = 18

        says terms: / cuts towards 0, by 0 it is 0;
        name(1, 0)
        read melts 7/2*10+1/2; = 0
        by(0)
        law(0, 0, 0) = 30
        read melts -7/2*10+-1/2; = 1
        by(1)
        law(0, 0, 0) = -30
        read melts 7/-2*10+-7/-2; = 2
        by(2)
        law(0, 0, 0) = -27
        read melts 7/0+0/0+-7/(1-1)+5; = 3
        by(3)
        law(0, 0, 0) = 5

        says terms: what is above 1000000 (below the same less) is that, at each step.
        name(1, 0)
        read melts 1000*1000-9999*100-40; = 0
        by(0)
        law(0, 0, 0) = 60
        read melts 9999*9999-9999*100-40; = 1
        by(1)
        law(0, 0, 0) = 60
        read melts -9999*9999+9999*100+40; = 2
        by(2)
        law(0, 0, 0) = -60
        read melts 9999*9999*9999*-9999+9999*100+40; = 3
        by(3)
        law(0, 0, 0) = -60

        says terms: what is above 1000000 (below the same less) is that, at each step.
        name(1, 0)
        read melts 1000*1000+1-1000*1000+7; = 0
        by(0)
        law(0, 0, 0) = 7
        read melts -1000*1000-1+1000*1000-7; = 1
        by(1)
        law(0, 0, 0) = -7
        read melts 1000*1000-1-999*1000-920; = 2
        by(2)
        law(0, 0, 0) = 79
        read melts -(1000*1000+50)+1000*1000+3; = 3
        by(3)
        law(0, 0, 0) = 3

        says terms: or and and look at both sides always, of if just the SUM that is chosen is asked.
        name(1, 0)
        read melts if 1=1 or 1/0=9 then 4 else 5/0 end; = 0
        by(0)
        law(0, 0, 0) = 4
        read melts if 1=2 and 1/0=0 then 4/0 else 5 end; = 1
        by(1)
        law(0, 0, 0) = 5
        read melts if 1=2 or 1/0=0 and 1=1 then if 1=2 then 4 else 6 end else 5 end+1; = 2
        by(2)
        law(0, 0, 0) = 7
        """;

    static final String FAULTS = """
        says terms: FAULTS, the first as TOKENS are come to,
        read melts (10000; lay 99; = -1
        fault(0) = 2
        fault(1) = 7
        read lay 1; melts cell; name 10 in 0; = -1
        fault(0) = 5
        fault(1) = 13
        read name 10 in 10; = -1
        fault(0) = 7
        fault(1) = 5
        read name 12 in 10 ! = -1
        fault(0) = 2
        fault(1) = 11
        read lay 1 ! lay 10; = -1
        fault(0) = 1
        fault(1) = 6

        says terms: at the TOKEN's first byte (of the end at the length),
        read lay    hours; = -1
        fault(0) = 1
        fault(1) = 7
        read lay 1; \\n 12345; = -1
        fault(0) = 1
        fault(1) = 9
        read lay 1 = -1
        fault(0) = 1
        fault(1) = 5
        read lay 1  \\n  = -1
        fault(0) = 1
        fault(1) = 9
        tape lay 1;lay 2;
        end(9)
        text() = -1
        fault(1) = 9
        read melts if 1=1 then 2 else 3 = -1
        fault(0) = 1
        fault(1) = 26
        tape melts 12;
        end(7)
        text() = -1
        fault(0) = 1
        fault(1) = 7
        tape melts hours;
        end(10)
        text() = -1
        fault(0) = 1
        fault(1) = 10
        tape melts if 1<=2
        end(11)
        text() = -1
        fault(0) = 1
        fault(1) = 11
        tape melts 10000;
        end(10)
        text() = -1
        fault(0) = 1
        fault(1) = 10

        says terms: of one the least:
        read melts 1;FULLmelts 2; = -1
        fault(0) = 6
        fault(1) = 169
        read melts 1;hour 1;hour 1;hour 1;hour 1;hour 1;hour 1;hour 1;hour 1;hour 1;hour 1;hour 1;hour 1;hour 1;hour 1;hour 1;hour 1;hour 1;hour 1;hour 1;hour 1;hour 1;hour 1;hour 1;melts 2; = -1
        fault(0) = 4
        fault(1) = 169
        read FULLcell = -1
        fault(0) = 1
        fault(1) = 168
        read name 0 in 0; = -1
        fault(0) = 2
        fault(1) = 5
        read name 10000 in 0; = -1
        fault(0) = 2
        fault(1) = 5
        read lay 1 10000; = -1
        fault(0) = 1
        fault(1) = 6
        read melts 1 cell; = -1
        fault(0) = 1
        fault(1) = 8
        read melts ((((((((not 1<2; = -1
        fault(0) = 1
        fault(1) = 14
        read melts ((((((((1(2; = -1
        fault(0) = 1
        fault(1) = 15

        says terms: 1 it can't stand there, or is none.
        read ; = -1
        fault(0) = 1
        fault(1) = 0
        read 1; = -1
        fault(0) = 1
        read warm; = -1
        fault(0) = 1
        fault(1) = 0
        read lay 1;; = -1
        fault(0) = 1
        fault(1) = 6
        read frost 1; = -1
        fault(0) = 1
        fault(1) = 0
        read melts frost; = -1
        fault(0) = 1
        fault(1) = 6
        read melts melts; = -1
        fault(0) = 1
        fault(1) = 6
        read melts name; = -1
        fault(0) = 1
        fault(1) = 6
        read melts sink; = -1
        fault(0) = 1
        fault(1) = 6
        read melts in; = -1
        fault(0) = 1
        fault(1) = 6
        read melts 1 at 2; = -1
        fault(0) = 1
        fault(1) = 8
        read melts then; = -1
        fault(0) = 1
        read melts or; = -1
        fault(0) = 1
        read melts not 1; = -1
        fault(0) = 1
        fault(1) = 6
        read melts <; = -1
        fault(0) = 1
        fault(1) = 6
        read melts 1 = -1
        fault(0) = 1
        read melts 1 $ 2; = -1
        fault(0) = 1
        fault(1) = 8
        read \\xff = -1
        fault(0) = 1
        fault(1) = 0
        read lay warm; = -1
        fault(0) = 1
        fault(1) = 4
        read lay -1; = -1
        fault(0) = 1
        fault(1) = 4
        about(2) = 0

        says terms: 2 a NUMBER that isn't one of those told (above 9999;
        read melts 9999; = 0
        read melts 10000; = -1
        fault(0) = 2
        fault(1) = 6
        read breaks 1+10000; = -1
        fault(0) = 2
        fault(1) = 9
        read claims if 1=10000 then 1 else 2 end; = -1
        fault(0) = 2
        fault(1) = 12
        read melts 4294967296; = -1
        fault(0) = 2
        fault(1) = 6
        read melts 18446744073709551617; = -1
        fault(0) = 2
        fault(1) = 6

        says terms: SOUNDS 1 .. 9999;
        read name 0 in 0; = -1
        fault(0) = 2
        fault(1) = 5
        read name 1 in 0; = 0
        read name 9999 in 0; = 1
        read name 10000 in 0; = -1
        fault(0) = 2
        fault(1) = 5
        read name 11111 in 0; = -1
        fault(0) = 2
        fault(1) = 5
        read name 4294967297 in 0; = -1
        fault(0) = 2
        fault(1) = 5

        says terms: LAYERS, CELLS 0 .. 9,
        read name 1 in 0;family 1 at 0;stand 0 at 0;lay 0;take 0; = 0
        read name 1 in 9;family 1 at 9;stand 0 at 9;lay 9;take 9; = 1
        read name 1 in 10; = -1
        fault(0) = 2
        fault(1) = 10
        read family 1 at 10; = -1
        fault(0) = 2
        fault(1) = 12
        read stand 0 at 10; = -1
        fault(0) = 2
        fault(1) = 11
        read lay 10; = -1
        fault(0) = 2
        fault(1) = 4
        read take 10; = -1
        fault(0) = 2
        fault(1) = 5

        says terms: NET 1 .. 9,
        read family 1 at 0;family 9 at 0; = 0
        read family 0 at 0; = -1
        fault(0) = 2
        fault(1) = 7
        read family 10 at 0; = -1
        fault(0) = 2
        fault(1) = 7

        says terms: NAMES 0 .. 5,
        read call 0;call 5;sink 0;sink 5; = 0
        read call 6; = -1
        fault(0) = 2
        fault(1) = 5
        read sink 6; = -1
        fault(0) = 2
        fault(1) = 5

        says terms: FAMILIES 0 .. 4,
        read stand 0 at 1;stand 4 at 1; = 0
        read stand 5 at 1; = -1
        fault(0) = 2
        fault(1) = 6

        says terms: HOURS 1 .. 60).
        read hour 1;hour 60; = 0
        read hour 0; = -1
        fault(0) = 2
        fault(1) = 5
        read hour 61; = -1
        fault(0) = 2
        fault(1) = 5

        says terms: 3 the 9th of ( not digit ice if and - (of one ONE) that are open around one another
        read melts ((((((((1)))))))); = 0
        read melts (((((((((1))))))))); = -1
        fault(0) = 3
        fault(1) = 14
        read melts if not not not not not not not 1=1 then 1 else 2 end; = 1
        read melts if not not not not not not not not 1=1 then 1 else 2 end; = -1
        fault(0) = 3
        fault(1) = 37
        read melts ice ice ice ice ice ice ice ice 1; = 2
        read melts ice ice ice ice ice ice ice ice ice 1; = -1
        fault(0) = 3
        fault(1) = 38
        read melts 1----------1; = -1
        fault(0) = 3
        fault(1) = 16
        read melts 1---------1; = 3

        says terms: 3 the 9th of ( not digit ice if and - (of one ONE) that are open around one another
        read melts --------1; = 0
        read melts ---------1; = -1
        fault(0) = 3
        fault(1) = 14
        read melts digit 1 of digit 1 of digit 1 of digit 1 of digit 1 of digit 1 of digit 1 of digit 1 of 1; = 1
        read melts digit 1 of digit 1 of digit 1 of digit 1 of digit 1 of digit 1 of digit 1 of digit 1 of digit 1 of 1; = -1
        fault(0) = 3
        fault(1) = 94
        read melts if if if if if if if if 1=1 then 1 else 2 end=1 then 1 else 2 end=1 then 1 else 2 end=1 then 1 else 2 end=1 then 1 else 2 end=1 then 1 else 2 end=1 then 1 else 2 end=1 then 1 else 2 end; = 2
        read melts if if if if if if if if if 1=1 then = -1
        fault(0) = 3
        fault(1) = 30
        read melts (-ice digit 1 of if not(-ice 1)=1 then 1 else 2 end); = -1
        fault(0) = 3
        fault(1) = 31
        read melts (-ice digit 1 of if not(-1)=1 then 1 else 2 end); = 3

        says terms: (at it; digit till its second is whole).
        read melts digit(((((((1)))))))of(((((((1))))))); = 0
        read melts digit((((((((1))))))))of 1; = -1
        fault(0) = 3
        fault(1) = 18
        read melts digit 1 of((((((((1)))))))); = -1
        fault(0) = 3
        fault(1) = 23
        read melts digit 1 of 1+((((((((1)))))))); = 1
        read melts ((((((((1))))))))*((((((((1))))))))--------1; = 2
        read melts ((((((((1))))))))*ice((((((((1)))))))); = -1
        fault(0) = 3
        fault(1) = 34

        says terms: 4 melts, breaks, claims for the second time (at it).
        read melts 1;melts 1; = -1
        fault(0) = 4
        fault(1) = 8
        read breaks 1;lay 1; breaks = -1
        fault(0) = 4
        fault(1) = 16
        read claims 1;claims ! = -1
        fault(0) = 4
        fault(1) = 9
        read melts 1;lay 1;lay 1;lay 1; = 0

        says terms: 5 a NAME that isn't of that CLAUSE (at it).
        read melts cell; = -1
        fault(0) = 5
        fault(1) = 6
        read melts 1+net; = -1
        fault(0) = 5
        fault(1) = 8
        read melts ice house; = -1
        fault(0) = 5
        fault(1) = 10
        read breaks cell*net; = -1
        fault(0) = 5
        fault(1) = 12
        read breaks if house=1 then 1 else 2 end; = -1
        fault(0) = 5
        fault(1) = 10
        read claims net;melts net; = -1
        fault(0) = 5
        fault(1) = 17
        read claims cell+net+house;breaks cell;melts hour; = 0

        says terms: 6 the 25th CLAUSE (at its first TOKEN).
        read FULL = 0
        read FULL hour 1; = -1
        fault(0) = 6
        fault(1) = 169
        read FULLmelts 1; = -1
        fault(0) = 6
        fault(1) = 168
        read FULLhour = -1
        fault(0) = 6
        fault(1) = 168

        says terms: 7 SOUNDS with a digit 0 (at them).
        read name 10 in 0; = -1
        fault(0) = 7
        fault(1) = 5
        read name 101 in 0; = -1
        fault(0) = 7
        fault(1) = 5
        read name 9990 in 0; = -1
        fault(0) = 7
        fault(1) = 5
        read name 1000 ! = -1
        fault(0) = 7
        fault(1) = 5
        read name 9999 in 0; = 0
        """;

    static final String RULING = """
        says terms: THE TEXT (told; at first none) rules.
        name(1, 3)
        family(1, 1)
        about(3) = -1
        read melts 50;breaks 7;claims 8; = 0
        read melts 60;breaks 9;claims 9; = 1
        about(3) = -1
        law(0, 0, 0) = -3
        law(0, 0, 1) = 3
        law(0, 0, 2) = 1
        by(0)
        law(0, 0, 0) = 50
        law(0, 0, 1) = 7
        law(0, 0, 2) = 8
        by(1)
        law(0, 0, 0) = 60
        law(0, 0, 1) = 9
        law(0, 0, 2) = 9
        hour(1)
        of(0, 3) = 0

        says terms: melts: -99 at least, 99 at most;
        name(1, 0)
        read melts 99; = 0
        by(0)
        law(0, 0, 0) = 99
        read melts 100; = 1
        by(1)
        law(0, 0, 0) = 99
        read melts -99; = 2
        by(2)
        law(0, 0, 0) = -99
        read melts -100; = 3
        by(3)
        law(0, 0, 0) = -99

        says terms: without: WARM less LAYER.
        name(1, 0)
        name(1, 9)
        law(0, 0, 0) = 0
        law(1, 0, 0) = -9
        hour(2)
        law(0, 0, 0) = 9
        law(1, 0, 0) = 0
        read breaks 1; = 0
        by(0)
        law(0, 0, 0) = 9
        law(1, 0, 0) = 0

        says terms: breaks (the odds of 10): 0 at least, 10 at most;
        name(1, 0)
        read breaks 10; = 0
        by(0)
        law(0, 0, 1) = 10
        read breaks 11; = 1
        by(1)
        law(0, 0, 1) = 10
        read breaks 0; = 2
        by(2)
        law(0, 0, 1) = 0
        read breaks -1; = 3
        by(3)
        law(0, 0, 1) = 0

        says terms: without: 3.
        name(12, 0)
        law(0, 0, 1) = 3
        read melts 1; = 0
        by(0)
        law(0, 0, 1) = 3
        stone(1, true)
        whole(0, 0, 1, false) = 7

        says terms: claims: -99 at least, 99 at most;
        name(1, 0)
        family(1, 1)
        read claims 99; = 0
        by(0)
        law(0, 0, 2) = 99
        read claims 100; = 1
        by(1)
        law(0, 0, 2) = 99
        read claims -99; = 2
        by(2)
        law(0, 0, 2) = -99
        read claims -100; = 3
        by(3)
        law(0, 0, 2) = -99

        says terms: without: 1.
        name(1, 9)
        family(1, 2)
        law(0, 0, 2) = 1
        read melts 0; = 0
        by(0)
        law(0, 0, 2) = 1
        call(0)
        hour(1) = 1

        says terms: PLAYED by a TEXT: its CLAUSES but laws, in their order, as by hand;
        read melts 5;lay 1;breaks 2;take 1;name 12 in 9;call 0;family 2 at 2;claims 3;hour 1;sink 0; = 0
        played(0) = -1
        about(3) = -1
        law(0, 0, 0) = -2
        law(0, 0, 1) = 3
        law(0, 0, 2) = 1
        is(3) = 0
        is(0) = 1
        of(0, 3) = 0
        ledger(0) = 1
        about(4) = 5
        read take 1;lay 1; = 1
        played(1) = 0
        is(3) = 0

        says terms: one that can't be ends it
        read lay 1;melts 1;lay 1;lay 2; = 0
        played(0) = 2
        is(3) = 2
        about(4) = 1

        says terms: one that can't be ends it
        read name 1 in 1;lay 1; = 0
        read family 1 at 1;lay 1; = 1
        read call 0;lay 2; = 2
        6 times name(1, 1)
        5 times family(1, 1)
        played(0) = 0
        played(1) = 0
        is(3) = 0
        about(0) = 6
        about(1) = 5
        played(2) = -1
        is(3) = 4
        played(2) = 0
        back()
        read stand 0 at 1;lay 1; = 0
        read sink 0;lay 1; = 1
        read take 1;lay 1; = 2
        played(0) = 0
        played(1) = 0
        played(2) = 0
        family(1, 1)
        name(1, 9)
        played(0) = 0
        played(1) = 0
        call(0)
        played(1) = 0
        is(3) = 0

        says terms: (of so many HOURS those that can pass do):
        166 times hour(60)
        hour(29)
        is(0) = 9989
        read hour 10;lay 1;lay 1; = 0
        read lay 2;hour 11;lay 3; = 1
        played(1) = 1
        is(0) = 9999
        is(3) = 4
        10 times undo()
        is(0) = 9989
        played(0) = 2
        is(0) = 9999
        is(3) = 6
        played(0) = 0
        is(0) = 9999

        says terms: its number among all CLAUSES (from 0);
        read call 0; = 0
        read melts 1;breaks 1;claims 1;call 0; = 1
        read hour 1;hour 1;hour 1;hour 1;hour 1;hour 1;hour 1;hour 1;hour 1;hour 1;hour 1;hour 1;hour 1;hour 1;hour 1;hour 1;hour 1;hour 1;hour 1;hour 1;hour 1;hour 1;hour 1;call 0; = 2
        played(0) = 0
        played(1) = 3
        played(2) = 23

        says terms: what was done stays.
        read name 12 in 9;family 2 at 1;call 0;lay 1;stand 0 at 2;hour 1;sink 0;sink 0;lay 9; = 0
        played(0) = 7
        about(0) = 1
        about(1) = 1
        of(0, 3) = 0
        is(3) = 2
        ofFamily(0, 1) = 2
        is(0) = 1
        about(4) = 5
        """;

    /** FULL stands for 24 CLAUSES (168 bytes); LONG, SIGNS and LAST for 300 bytes; WIDE for 287 bytes of a ONE. */
    static String whole(String lines) {
        return lines.replace("FULL", FULL).replace("LONG", LONG).replace("SIGNS", SIGNS).replace("LAST", LAST)
            .replace("WIDE", WIDE);
    }

    private SentencesOfTexts() {
    }
}
