/** Runs for the sentences of the document's terms, in their order. */
final class SentencesOfTerms {
    // X from a new object on: 307 19409 3285 3508 5965 4471 24993 8231 18536 4154 387 2903 3853 15562 22307 3890 5620.

    static final String NAMES_AND_FAMILIES = """
        says terms: NAMES 0 .. 5 (told one by one):
        of(0, 0) = -2
        name(1, 0) = 0
        of(1, 0) = -2
        name(2, 0) = 1
        name(3, 0) = 2
        name(1, 0) = 3
        name(2, 0) = 4
        name(3, 0) = 5
        name(4, 0) = -1
        about(0) = 6
        of(5, 0) = 3
        of(6, 0) = -2

        says terms: SOUNDS, a number of 1 .. 5 digits 1 .. 9;
        name(-2147483648, 0) = -1
        name(-12345, 0) = -1
        name(-1, 0) = -1
        name(0, 0) = -1
        name(1, 0) = 0
        name(9, 0) = 1
        name(10, 0) = -1
        name(105, 0) = -1
        name(11110, 0) = -1
        name(90000, 0) = -1
        name(11111, 0) = 2
        name(99999, 0) = 3
        name(100000, 0) = -1
        name(111111, 0) = -1
        name(2147483647, 0) = -1
        about(0) = 4

        says terms: LAYER 0 .. 9;
        name(1, -2147483648) = -1
        name(1, -1) = -1
        name(1, 0) = 0
        name(1, 9) = 1
        name(1, 10) = -1
        name(1, 2147483647) = -1
        about(0) = 2
        of(0, 1) = 0
        of(1, 1) = 9

        says terms: SIZE: how many SOUNDS it has now (at first all; what is left: the first ones);
        name(7, 9)
        name(12345, 9)
        of(0, 2) = 1
        of(0, 4) = 7
        of(1, 2) = 5
        of(1, 4) = 12345
        read breaks 10; = 0
        by(0)
        stone(2, true)
        stone(4, true)
        call(1)
        hour(1)
        of(1, 2) = 3
        of(1, 4) = 123
        of(1, 0) = 12345
        hour(1)
        of(1, 2) = 2
        of(1, 4) = 12
        of(1, 0) = 12345

        says terms: in the ice (at first), in a CELL of the stream 0 .. 9, milled, or with a FAMILY.
        name(1, 9)
        name(1, 9)
        name(1, 9)
        family(9, 2)
        of(0, 3) = -1
        call(0)
        of(0, 3) = 0
        hour(1)
        of(0, 3) = 20
        stand(0, 9)
        call(1)
        hour(4)
        of(1, 3) = 8
        hour(1)
        of(1, 3) = 10
        of(2, 3) = -1
        of(0, 3) = 20

        says terms: FAMILIES 0 .. 4 (told one by one):
        ofFamily(0, 0) = -1
        family(1, 0) = 0
        ofFamily(1, 0) = -1
        family(2, 0) = 1
        family(1, 0) = 2
        family(2, 0) = 3
        family(3, 0) = 4
        family(4, 0) = -1
        about(1) = 5
        ofFamily(4, 0) = 3
        ofFamily(5, 0) = -1

        says terms: NET 1 .. 9,
        family(-2147483648, 0) = -1
        family(-1, 0) = -1
        family(0, 0) = -1
        family(1, 0) = 0
        family(9, 0) = 1
        family(10, 0) = -1
        family(2147483647, 0) = -1
        about(1) = 2
        ofFamily(0, 0) = 1
        ofFamily(1, 0) = 9

        says terms: a CELL 0 .. 9 where it stands.
        family(1, -2147483648) = -1
        family(1, -1) = -1
        family(1, 0) = 0
        family(1, 9) = 1
        family(1, 10) = -1
        family(1, 2147483647) = -1
        about(1) = 2
        ofFamily(0, 1) = 0
        ofFamily(1, 1) = 9

        says terms: STONES (at first none),
        is(3) = 0
        name(12, 9)
        stone(0, false) = false
        stone(5, false) = false
        stone(9, false) = false
        whole(0, 0, 9, true) = 1
        call(0)
        hour(4)
        is(1) = 5965

        says terms: EDDIES (told; at first none) in CELLS.
        is(4) = 0
        name(1, 9)
        call(0)
        hour(4)
        of(0, 3) = 8
        is(1) = 5965
        eddy(0, true) = true
        eddy(9, true) = true
        is(4) = 513

        says terms: WARM 0 .. 9 (at first 0).
        is(2) = 0
        name(1, 3)
        law(0, 0, 0) = -3
        hour(2)
        is(2) = 9
        hour(14)
        is(2) = 0

        says terms: HOUR 0 .. 9999 (at first 0).
        is(0) = 0
        166 times hour(60) = 0
        hour(38) = 0
        is(0) = 9998
        hour(1) = 0
        is(0) = 9999
        hour(1) = -1
        is(0) = 9999

        says terms: X: at first 307.
        is(1) = 307
        hour(1)
        is(2) = 7

        says terms: BOOK (the latest 30): HOUR, NAME, what, FAMILY or CELL.
        name(1, 9)
        name(2, 9)
        family(1, 1)
        family(1, 2)
        read call 1;hour 1; = 0
        read sink 1;hour 1; = 1
        book(-1, 0) = 0
        hour(1)
        played(0) = -1
        book(-1, 0) = 1
        book(0, 0) = 1
        book(0, 1) = 1
        book(0, 2) = 0
        book(0, 3) = 1
        28 times played(1) = -1
        book(-1, 0) = 29
        played(1) = -1
        book(-1, 0) = 30
        book(0, 0) = 1
        book(29, 0) = 30
        played(1) = -1
        book(-1, 0) = 30
        book(0, 0) = 2
        book(1, 0) = 3
        book(28, 0) = 30
        book(29, 0) = 31
        book(30, 0) = -2
        ledger(0) = 30

        says terms: BOOK (the latest 30): HOUR, NAME, what, FAMILY or CELL.
        6 times name(1, 9)
        5 times family(1, 1)
        166 times hour(60)
        hour(38)
        read claims house-3; = 0
        by(0)
        call(5)
        hour(1) = 1
        book(0, 0) = 9998
        book(0, 1) = 5
        book(0, 2) = 0
        book(0, 3) = 4
        """;

    static final String HOURS_AND_STEPS = """
        says terms: CALLED: a NAME in the ice comes into CELL 0.
        name(123, 9)
        name(1, 9)
        call(0) = true
        of(0, 3) = 0
        of(0, 2) = 3
        of(1, 3) = -1
        call(0) = false
        hour(1)
        of(0, 3) = 2
        call(0) = false
        of(0, 3) = 2
        hour(4)
        of(0, 3) = 10
        call(0) = false
        of(0, 3) = 10
        family(1, 1)
        call(1)
        hour(1) = 1
        call(1) = false
        of(1, 3) = 20

        says terms: PUT BACK: a NAME with a FAMILY comes into CELL 0 (SIZE stays).
        name(12345, 9)
        name(1, 9)
        read breaks 10; = 0
        by(0)
        family(3, 2)
        stone(2, true)
        sink(0) = false
        of(0, 3) = -1
        call(0)
        sink(0) = false
        hour(1) = 1
        of(0, 3) = 20
        sink(0) = true
        of(0, 3) = 0
        of(0, 2) = 3
        of(0, 4) = 123
        ofFamily(0, 2) = 0
        sink(0) = false
        stand(0, 9)
        hour(20)
        of(0, 3) = 10
        sink(0) = false
        of(0, 3) = 10

        says terms: AN HOUR: WARM is X mod 10
        hour(1)
        is(2) = 7
        hour(1)
        is(2) = 9
        hour(1)
        is(2) = 5
        springs(9999, 1) = 4
        is(2) = 5

        says terms: (X being (X * 563 + 433) mod 30773 then).
        hour(1)
        is(1) = 19409
        hour(1)
        is(1) = 3285
        hour(5)
        is(1) = 8231
        springs(9999, 1)
        is(1) = 3715

        says terms: NAMES by number:
        name(1, 9)
        name(1, 9)
        name(1, 9)
        read melts ice 1; = 0
        by(0)
        hour(1)
        frozen() = 4

        says terms: one in the ice, melts saying more than 0: comes into CELL 0, no more this HOUR.
        name(12, 7)
        name(12, 6)
        family(9, 0)
        family(9, 1)
        family(9, 2)
        stone(0, true)
        stone(2, true)
        eddy(0, true)
        hour(1) = 0
        is(2) = 7
        is(1) = 19409
        of(0, 3) = -1
        of(1, 3) = 0
        of(1, 2) = 2
        book(-1, 0) = 0

        says terms: One in a CELL: is there an EDDY, a draw by 2 (as WARM): 0: it stays.
        name(1, 9)
        eddy(0, true)
        hour(2)
        call(0)
        hour(1)
        of(0, 3) = 0
        is(1) = 5965
        hour(1)
        of(0, 3) = 2
        is(1) = 24993

        says terms: One in a CELL: is there an EDDY, a draw by 2 (as WARM): 0: it stays.
        name(1, 9)
        eddy(1, true)
        eddy(2, true)
        hour(2)
        call(0)
        hour(1)
        of(0, 3) = 2
        is(1) = 3508
        hour(1)
        is(2) = 8
        of(0, 3) = 4
        is(1) = 4471

        says terms: If it doesn't stay, it goes 1 CELL on, 2 if WARM is above 4;
        name(1, 9)
        name(1, 9)
        hour(2)
        call(0)
        hour(1)
        is(2) = 5
        of(0, 3) = 2
        hour(6)
        call(1)
        hour(1)
        is(2) = 4
        of(1, 3) = 1

        says terms: to CELL 9 or beyond: it is in CELL 9, milled (written down: 1, CELL 9), no more.
        name(12, 9)
        family(9, 9)
        stone(9, true)
        eddy(9, true)
        hour(3)
        call(0)
        hour(5)
        of(0, 3) = 7
        book(-1, 0) = 0
        hour(1) = 0
        is(2) = 6
        of(0, 3) = 10
        of(0, 2) = 2
        is(1) = 4154
        book(-1, 0) = 1
        book(0, 0) = 8
        book(0, 1) = 0
        book(0, 2) = 1
        book(0, 3) = 9
        hour(5) = 0
        is(1) = 22307
        of(0, 3) = 10
        book(-1, 0) = 1

        says terms: to CELL 9 or beyond: it is in CELL 9, milled (written down: 1, CELL 9), no more.
        name(12, 9)
        call(0)
        hour(4)
        of(0, 3) = 8
        hour(1)
        is(2) = 5
        of(0, 3) = 10
        book(0, 2) = 1
        book(0, 3) = 9

        says terms: to CELL 9 or beyond: it is in CELL 9, milled (written down: 1, CELL 9), no more.
        name(12, 9)
        hour(1)
        call(0)
        hour(4)
        of(0, 3) = 8
        hour(1)
        is(2) = 1
        of(0, 3) = 10
        book(0, 2) = 1
        book(0, 3) = 9

        says terms: If it went, and there is a STONE where it is,
        name(12, 9)
        read breaks 10; = 0
        by(0)
        stone(0, true)
        stone(1, true)
        eddy(0, true)
        hour(2)
        call(0)
        hour(1)
        of(0, 3) = 0
        of(0, 2) = 2
        is(1) = 5965
        hour(1)
        of(0, 3) = 2
        of(0, 2) = 2
        is(1) = 24993
        stone(3, true)
        hour(1)
        of(0, 3) = 3
        of(0, 2) = 1
        is(1) = 18536

        says terms: and its SIZE is above 1: a draw by 10:
        name(1, 9)
        name(12, 9)
        read breaks 0; = 0
        by(0)
        stone(2, true)
        call(0)
        hour(1)
        of(0, 3) = 2
        is(1) = 19409
        undo()
        call(1)
        hour(1)
        of(1, 3) = 2
        of(1, 2) = 2
        is(1) = 3285

        says terms: below breaks:
        name(12, 9)
        read breaks 9; = 0
        read breaks 10; = 1
        stone(1, true)
        stone(2, true)
        call(0)
        by(0)
        foretold(1, 0, 1) = 2
        by(1)
        foretold(1, 0, 1) = 1
        by(-1)
        undo()
        hour(10)
        call(0)
        hour(1)
        is(2) = 7
        is(1) = 3853
        of(0, 2) = 2
        undo()
        undo()
        hour(2)
        is(1) = 3853
        call(0)
        hour(1)
        is(1) = 22307
        of(0, 2) = 1

        says terms: its SIZE is half of it, what isn't whole upwards (written down: 2, CELL).
        name(12345, 9)
        name(1234, 9)
        name(123, 9)
        name(12, 9)
        read breaks 10; = 0
        by(0)
        stone(2, true)
        call(0)
        call(1)
        call(2)
        call(3)
        hour(1)
        of(0, 2) = 3
        of(1, 2) = 2
        of(2, 2) = 2
        of(3, 2) = 1
        book(-1, 0) = 4
        book(1, 0) = 0
        book(1, 1) = 1
        book(1, 2) = 2
        book(1, 3) = 2

        says terms: Then (whether it went or not)
        name(12, 9)
        family(2, 0)
        eddy(0, true)
        hour(2)
        call(0)
        hour(1) = 1
        of(0, 3) = 20

        says terms: FAMILIES by number: the first one that stands there,
        name(12, 9)
        family(9, 1)
        family(9, 3)
        family(9, 0)
        family(9, 2)
        family(9, 2)
        call(0)
        hour(1) = 1
        of(0, 3) = 23

        says terms: with NET as great as SIZE or greater,
        name(1234, 9)
        family(3, 2)
        family(4, 2)
        family(5, 2)
        call(0)
        hour(1) = 1
        of(0, 3) = 21
        undo()
        stand(1, 3)
        hour(1) = 1
        of(0, 3) = 22
        undo()
        stand(2, 3)
        hour(1) = 0
        of(0, 3) = 2

        says terms: with NET as great as SIZE or greater,
        name(1234, 9)
        family(2, 2)
        read breaks 10; = 0
        by(0)
        stone(2, true)
        call(0)
        hour(1) = 1
        of(0, 2) = 2
        of(0, 3) = 20

        says terms: claims saying more than 0, has it (written down: 0, FAMILY).
        name(1, 9)
        family(1, 2)
        family(1, 2)
        family(1, 2)
        read claims house; = 0
        read claims house-1; = 1
        read claims house-2; = 2
        call(0)
        by(2)
        hour(1) = 0
        of(0, 3) = 2
        book(-1, 0) = 0
        undo()
        by(1)
        hour(1) = 1
        of(0, 3) = 22
        book(0, 0) = 0
        book(0, 1) = 0
        book(0, 2) = 0
        book(0, 3) = 2
        undo()
        by(0)
        hour(1) = 1
        of(0, 3) = 21

        says terms: HOUR is one more (at 9999 none can pass).
        hour(1)
        is(0) = 1
        hour(59)
        is(0) = 60
        165 times hour(60)
        is(0) = 9960
        hour(39) = 0
        is(0) = 9999
        hour(1) = -1
        name(1, 0)
        read melts 1; = 0
        by(0)
        springs(0, 1) = 9999
        is(0) = 9999
        of(0, 3) = -1
        foretold(1, 0, 0) = -1

        says terms: STEPS: CALLED, a STONE laid or taken away, a FAMILY standing elsewhere, PUT BACK, an HOUR (each), SPRINGS (see V):
        name(1, 9)
        family(1, 2)
        eddy(5, true)
        wants(0, 0, 1)
        give(0, 0)
        half(1)
        said(0, 1)
        quota(3)
        read hour 3; = 0
        by(0)
        about(4) = 0
        call(0)
        about(4) = 1
        call(0) = false
        about(4) = 1
        stone(5, true)
        about(4) = 2
        stone(5, true) = false
        about(4) = 2
        stone(5, false)
        about(4) = 3
        stone(5, false) = false
        about(4) = 3
        stand(0, 1)
        about(4) = 4
        stand(0, 1) = false
        about(4) = 4
        stand(0, 2)
        about(4) = 5
        sink(0) = false
        hour(1) = 1
        about(4) = 6
        hour(0) = -1
        about(4) = 6
        sink(0) = true
        about(4) = 7
        sink(0) = false
        about(4) = 7
        hour(4)
        about(4) = 11
        springs(3, 40)
        about(4) = 12
        springs(3, 41) = -1
        about(4) = 12
        played(0) = -1
        about(4) = 15

        says terms: the latest 30 can be taken back, the latest first
        hour(29)
        about(4) = 29
        hour(1)
        about(4) = 30
        hour(1)
        about(4) = 30
        undo() = 29
        is(0) = 30
        undo() = 28
        is(0) = 29
        27 times undo()
        is(0) = 2
        undo() = 0
        is(0) = 1
        undo() = -1
        is(0) = 1

        says terms: (where NAMES are, SIZES, STONES, where FAMILIES stand, WARM, HOUR, X, BOOK are as ahead of it;
        name(12345, 9)
        family(3, 4)
        family(3, 6)
        read breaks 10; = 0
        by(0)
        call(0)
        stone(2, true)
        stand(1, 4)
        hour(1)
        hour(1) = 1
        of(0, 3) = 20
        undo() = 4
        of(0, 3) = 2
        of(0, 2) = 3
        is(2) = 7
        is(0) = 1
        is(1) = 3285
        book(-1, 0) = 1
        undo() = 3
        of(0, 3) = 0
        of(0, 2) = 5
        is(2) = 0
        is(0) = 0
        is(1) = 307
        book(-1, 0) = 0
        ofFamily(1, 1) = 4
        undo() = 2
        ofFamily(1, 1) = 6
        is(3) = 4
        undo() = 1
        is(3) = 0
        of(0, 3) = 0
        undo() = 0
        of(0, 3) = -1

        says terms: (where NAMES are, SIZES, STONES, where FAMILIES stand, WARM, HOUR, X, BOOK are as ahead of it;
        name(1, 9)
        family(1, 1)
        family(1, 2)
        read call 0;hour 1; = 0
        read sink 0;hour 1; = 1
        played(0) = -1
        29 times played(1) = -1
        book(-1, 0) = 30
        book(0, 0) = 0
        played(1) = -1
        book(0, 0) = 1
        book(29, 0) = 30
        undo() = 29
        book(-1, 0) = 30
        book(0, 0) = 0
        book(28, 0) = 28
        book(29, 0) = 29
        undo() = 28
        undo() = 27
        book(-1, 0) = 29
        book(28, 0) = 28
        book(29, 0) = -2

        says terms: NAMES, FAMILIES told since are as told).
        name(1, 9)
        family(1, 1)
        call(0)
        name(234, 5)
        family(7, 8)
        call(1)
        stand(1, 3)
        undo() = 2
        undo() = 1
        undo() = 0
        about(0) = 2
        about(1) = 2
        of(0, 3) = -1
        of(1, 0) = 234
        of(1, 1) = 5
        of(1, 2) = 3
        of(1, 3) = -1
        ofFamily(1, 0) = 7
        ofFamily(1, 1) = 8
        """;

    private SentencesOfTerms() {
    }
}
