/** Runs for the sentences of the document's third, fourth and fifth part of terms, in their order. */
final class SentencesOfAsking {
    static final String WAYS = """
        says terms: III. All that follows changes nothing but what is told.
        name(12, 9)
        name(2, 9)
        family(2, 4)
        call(0)
        stone(2, true)
        hour(1)
        foretold(60, 0, 0) = 20
        stable(0, true)
        stables()
        rests()
        gladdest(0)
        whole(0, 0, 9, true)
        clear(0, 0, 9, 10) = 4
        wants(0, 0, 4)
        favours(0, 0, 4)
        give(0, 0)
        half(1)
        joins(-1)
        layers(1)
        rhyme(0, 1)
        kindred(0)
        quota(5)
        power(0, true)
        dummies()
        veto()
        coalitions()
        said(0, 3)
        whose()
        richest()
        next()
        frozen()
        ledger(0)
        is(0) = 1
        is(1) = 3285
        is(2) = 7
        is(3) = 4
        is(4) = 0
        of(0, 2) = 2
        of(0, 3) = 2
        of(1, 3) = -1
        ofFamily(0, 1) = 4
        ofFamily(0, 2) = 0
        book(-1, 0) = 0
        about(4) = 3
        undo() = 2
        of(0, 3) = 0

        says terms: FORETOLD behind n HOURS (1 .. 60; those that can pass), nothing else being done.
        name(12345, 9)
        read breaks 10; = 0
        by(0)
        family(3, 4)
        call(0)
        stone(2, true)
        foretold(0, 0, 0) = -2
        foretold(-1, 0, 0) = -2
        foretold(1, 0, 0) = 2
        foretold(1, 0, 1) = 3
        foretold(2, 0, 0) = 20
        foretold(60, 0, 0) = 20
        foretold(61, 0, 0) = -2
        stand(0, 9)
        foretold(4, 0, 0) = 8
        foretold(5, 0, 0) = 10
        foretold(60, 0, 0) = 10

        says terms: FORETOLD behind n HOURS (1 .. 60; those that can pass), nothing else being done.
        name(1, 9)
        166 times hour(60)
        hour(38)
        is(0) = 9998
        call(0)
        foretold(1, 0, 0) = 1
        foretold(2, 0, 0) = 1
        foretold(60, 0, 0) = 1
        hour(1) = 0
        foretold(1, 0, 0) = 1
        foretold(60, 0, 0) = 1
        foretold(61, 0, 0) = -2

        says terms: WANTS: a FAMILY wants a NAME by a number (told, 0 .. 99; at first 0: not at all);
        name(1, 9)
        family(1, 1)
        gladdest(0) = -1
        stable(0, true) = -1
        stable(0, false) = -1
        rests() = 0
        stables() = 1
        wants(0, 0, -1) = false
        wants(0, 0, 100) = false
        gladdest(0) = -1
        wants(0, 0, 1) = true
        gladdest(0) = 0
        stable(0, true) = 0
        rests() = 1
        wants(0, 0, 99) = true
        stable(0, false) = 0
        wants(0, 0, 0) = true
        gladdest(0) = -1
        stable(0, true) = -1
        rests() = 0

        says terms: FAVOURS: a NAME favours a FAMILY by a number (told, 0 .. 99; at first 0);
        name(1, 9)
        family(1, 1)
        family(1, 1)
        wants(0, 0, 1)
        wants(1, 0, 1)
        stable(0, true) = 0
        stable(1, true) = -1
        favours(0, 1, -1) = false
        favours(0, 1, 100) = false
        stable(0, true) = 0
        favours(0, 1, 1) = true
        stable(0, true) = -1
        stable(1, true) = 0
        stable(1, false) = 0
        favours(0, 0, 99) = true
        stable(0, false) = 0
        favours(0, 0, 0) = true
        stable(1, false) = 0

        says terms: likers of more go first, of like ones the lowest.
        name(1, 9)
        name(1, 9)
        family(1, 1)
        family(1, 1)
        wants(0, 0, 5)
        wants(0, 1, 5)
        wants(1, 0, 5)
        wants(1, 1, 5)
        stable(0, true) = 0
        stable(1, true) = 1
        stable(0, false) = 0
        favours(0, 1, 1)
        stable(0, true) = 1
        stable(1, true) = 0
        wants(1, 1, 6)
        stable(0, true) = 0
        stable(1, true) = 1

        says terms: A way gives each FAMILY one NAME it wants at most, no NAME to two;
        name(1, 9)
        name(1, 9)
        family(1, 1)
        family(1, 1)
        wants(0, 0, 1)
        wants(1, 0, 1)
        stable(0, true) = 0
        stable(1, true) = -1
        stables() = 1
        family(1, 1)
        wants(2, 1, 9)
        stable(2, true) = 1
        stable(2, false) = 1
        stables() = 1

        says terms: A way gives each FAMILY one NAME it wants at most, no NAME to two;
        2 times name(1, 9)
        2 times family(1, 1)
        wants(0, 1, 5)
        wants(1, 0, 6)
        wants(1, 1, 5)
        favours(0, 0, 2)
        favours(0, 1, 1)
        favours(1, 0, 1)
        favours(1, 1, 2)
        give(0, 0)
        give(1, 1)
        rests() = 0
        stables() = 1
        stable(0, true) = 1
        stable(1, true) = 0
        stable(0, false) = 1
        stable(1, false) = 0

        says terms: a pair would rather, if the FAMILY wants the NAME more than (by number, then the lowest) what it has, or has none,
        name(1, 9)
        name(1, 9)
        name(1, 9)
        family(1, 1)
        wants(0, 1, 5)
        rests() = 1
        give(0, 1)
        rests() = 0
        wants(0, 2, 5)
        rests() = 0
        wants(0, 0, 5)
        rests() = 1
        wants(0, 0, 4)
        rests() = 0
        wants(0, 2, 6)
        rests() = 1
        give(0, 2)
        rests() = 0
        give(0, -1)
        rests() = 3

        says terms: and the NAME favours the FAMILY likewise, or is with none.
        name(1, 9)
        family(1, 1)
        family(1, 1)
        family(1, 1)
        wants(0, 0, 5)
        wants(1, 0, 5)
        wants(2, 0, 5)
        rests() = 3
        give(1, 0)
        rests() = 1
        favours(0, 0, 3)
        favours(0, 1, 3)
        favours(0, 2, 3)
        rests() = 1
        favours(0, 0, 2)
        rests() = 0
        favours(0, 2, 4)
        rests() = 1
        give(1, -1)
        rests() = 3

        says terms: STABLE: no pair would rather.
        name(1, 9)
        name(1, 9)
        family(1, 1)
        family(1, 1)
        wants(0, 0, 2)
        wants(0, 1, 1)
        wants(1, 0, 1)
        wants(1, 1, 2)
        favours(0, 1, 1)
        favours(1, 0, 1)
        stables() = 2
        stable(0, true) = 0
        give(0, 0)
        give(1, 1)
        rests() = 0
        give(0, -1)
        give(1, 0)
        give(0, 1)
        rests() = 0
        give(0, -1)
        rests() = 2

        says terms: Of all STABLE ways the one in which each FAMILY has what it likes best of all (theirs true), or each NAME (theirs false): what a FAMILY has;
        name(1, 9)
        name(1, 9)
        family(1, 1)
        family(1, 1)
        wants(0, 0, 2)
        wants(0, 1, 1)
        wants(1, 0, 1)
        wants(1, 1, 2)
        favours(0, 1, 1)
        favours(1, 0, 1)
        stable(0, true) = 0
        stable(1, true) = 1
        stable(0, false) = 1
        stable(1, false) = 0

        says terms: Of all STABLE ways the one in which each FAMILY has what it likes best of all (theirs true), or each NAME (theirs false): what a FAMILY has;
        4 times name(1, 9)
        5 times family(1, 1)
        wants(0, 0, 3)
        favours(0, 0, 6)
        wants(0, 1, 5)
        wants(0, 2, 6)
        favours(2, 0, 1)
        wants(0, 3, 6)
        favours(3, 0, 1)
        wants(1, 0, 2)
        favours(0, 1, 2)
        wants(1, 1, 2)
        favours(1, 1, 5)
        wants(1, 2, 2)
        favours(2, 1, 6)
        wants(1, 3, 3)
        wants(2, 0, 6)
        favours(0, 2, 5)
        wants(2, 1, 3)
        favours(1, 2, 5)
        wants(2, 2, 2)
        favours(2, 2, 6)
        wants(2, 3, 3)
        wants(3, 0, 3)
        wants(3, 1, 4)
        favours(1, 3, 1)
        wants(3, 2, 1)
        favours(2, 3, 4)
        wants(3, 3, 4)
        favours(3, 3, 5)
        wants(4, 0, 3)
        favours(0, 4, 5)
        wants(4, 1, 4)
        favours(1, 4, 2)
        wants(4, 2, 2)
        favours(2, 4, 2)
        wants(4, 3, 2)
        favours(3, 4, 6)
        stable(0, true) = 0
        stable(1, true) = 1
        stable(2, true) = 2
        stable(3, true) = -1
        stable(4, true) = 3
        stable(0, false) = 0
        stable(1, false) = 1
        stable(2, false) = 2
        stable(3, false) = -1
        stable(4, false) = 3
        stables() = 1

        says terms: how many STABLE ways there are (NAMES, FAMILIES that are there).
        stables() = 1
        wants(0, 0, 2)
        wants(0, 1, 1)
        wants(1, 0, 1)
        wants(1, 1, 2)
        favours(0, 1, 1)
        favours(1, 0, 1)
        stables() = 1
        name(1, 9)
        stables() = 1
        name(1, 9)
        stables() = 1
        family(1, 1)
        stables() = 1
        stable(0, true) = 0
        stable(1, true) = -1
        family(1, 1)
        stables() = 2
        stable(1, true) = 1

        says terms: how many STABLE ways there are (NAMES, FAMILIES that are there).
        name(1, 9)
        name(1, 9)
        family(1, 1)
        family(1, 1)
        wants(0, 0, 2)
        wants(1, 1, 2)
        stables() = 1
        wants(0, 0, 0)
        wants(1, 0, 1)
        stables() = 1
        wants(1, 0, 3)
        stables() = 1
        wants(0, 1, 1)
        wants(1, 1, 0)
        stables() = 1

        says terms: how many STABLE ways there are (NAMES, FAMILIES that are there).
        6 times name(1, 9)
        5 times family(1, 1)
        wants(0, 5, 2)
        wants(0, 4, 1)
        wants(1, 4, 2)
        wants(1, 5, 1)
        favours(5, 1, 1)
        favours(4, 0, 1)
        favours(4, 1, 0)
        stables() = 2
        stable(0, false) = 4
        stable(1, false) = 5
        wants(3, 2, 2)
        wants(3, 3, 1)
        wants(4, 3, 2)
        wants(4, 2, 1)
        favours(2, 4, 1)
        favours(3, 3, 1)
        stables() = 4
        stable(3, true) = 2
        stable(3, false) = 3

        says terms: how many STABLE ways there are (NAMES, FAMILIES that are there).
        2 times name(1, 9)
        3 times family(1, 1)
        wants(0, 0, 1)
        stables() = 1
        stable(0, true) = 0
        wants(0, 0, 0)
        wants(2, 0, 5)
        wants(1, 0, 5)
        wants(1, 1, 3)
        favours(0, 2, 9)
        favours(0, 1, 5)
        stables() = 1
        stable(0, true) = -1
        stable(1, true) = 1
        stable(2, true) = 0

        says terms: RESTS: GIVEN being a way (told; at first none; whether wanted or not):
        name(1, 9)
        name(1, 9)
        family(1, 1)
        family(1, 1)
        rests() = 0
        wants(0, 0, 1)
        wants(1, 0, 1)
        rests() = 2
        give(0, 1) = true
        rests() = 2
        give(1, 0) = true
        rests() = 1
        give(0, -1) = true
        rests() = 1

        says terms: how many pairs would rather (one has what it doesn't want: any it wants is more).
        name(1, 9)
        name(1, 9)
        name(1, 9)
        family(1, 1)
        wants(0, 2, 1)
        give(0, 0)
        rests() = 1
        wants(0, 1, 1)
        rests() = 2
        wants(0, 0, 1)
        rests() = 0
        wants(0, 0, 0)
        family(1, 1)
        wants(1, 0, 1)
        rests() = 2
        favours(0, 1, 1)
        rests() = 3
        wants(0, 3, 9)
        wants(1, 5, 9)
        wants(2, 1, 9)
        rests() = 3
        name(1, 9)
        rests() = 4
        family(1, 1)
        rests() = 5

        says terms: GLADDEST: the NAME a FAMILY wants most (above 0); of like ones the lowest; none.
        family(1, 1)
        gladdest(0) = -1
        name(1, 9)
        name(1, 9)
        name(1, 9)
        gladdest(0) = -1
        wants(0, 2, 1)
        gladdest(0) = 2
        wants(0, 1, 1)
        gladdest(0) = 1
        wants(0, 2, 2)
        gladdest(0) = 2
        wants(0, 0, 98)
        gladdest(0) = 0
        wants(0, 3, 99)
        wants(0, 5, 99)
        gladdest(0) = 0
        name(1, 9)
        gladdest(0) = 3
        """;

    static final String ODDS = """
        says terms: WHOLE: how likely a NAME that is in a CELL (from) comes to another one (to, from at least) by single CELLS,
        name(12, 9)
        stone(1, true)
        stone(2, true)
        stone(5, true)
        whole(0, 0, 2, false) = 49
        whole(0, 0, 2, true) = 100
        whole(0, 0, 5, false) = 343
        whole(0, 0, 5, true) = 1000
        whole(0, 3, 3, false) = 1
        whole(0, 3, 3, true) = 1
        whole(0, 3, 2, false) = -1
        whole(0, 9, 9, true) = 1
        whole(0, 0, 9, true) = 1000

        says terms: not broken at any STONE behind the first,
        name(12, 9)
        stone(0, true)
        stone(4, true)
        whole(0, 0, 3, false) = 1
        whole(0, 0, 4, false) = 7
        whole(0, 4, 4, false) = 1
        whole(0, 4, 9, true) = 1
        whole(0, 3, 4, true) = 10
        stone(9, true)
        whole(0, 0, 9, true) = 100

        says terms: by breaks as now (in each CELL, of its SIZE as now), in lowest terms.
        name(12345, 9)
        name(1, 9)
        read breaks cell+size; = 0
        by(0)
        stone(1, true)
        stone(3, true)
        whole(0, 0, 1, false) = 2
        whole(0, 0, 1, true) = 5
        whole(0, 1, 3, false) = 1
        whole(0, 1, 3, true) = 5
        whole(0, 0, 3, false) = 2
        whole(0, 0, 3, true) = 25
        whole(1, 0, 3, false) = 1
        whole(1, 0, 3, true) = 1
        stone(5, true)
        whole(0, 0, 5, false) = 0
        whole(0, 0, 5, true) = 1
        read breaks 10; = 1
        by(1)
        stone(2, true)
        call(0)
        hour(1)
        of(0, 2) = 3
        by(0)
        whole(0, 0, 1, false) = 3
        whole(0, 0, 1, true) = 5
        read breaks hour*2; = 2
        by(2)
        whole(0, 0, 1, false) = 4
        whole(0, 0, 1, true) = 5

        says terms: TO CLEAR: the fewest STONES (bits) without which that is odds of 10 at least;
        name(12, 9)
        name(1, 9)
        read breaks cell; = 0
        by(0)
        stone(0, true)
        stone(1, true)
        stone(2, true)
        stone(5, true)
        stone(9, true)
        clear(0, 0, 5, 10) = 38
        clear(0, 0, 5, 9) = 36
        clear(0, 0, 5, 8) = 34
        clear(0, 0, 5, 7) = 32
        clear(0, 0, 5, 4) = 2
        clear(0, 0, 5, 3) = 0
        clear(0, 0, 2, 9) = 4
        clear(0, 0, 9, 1) = 512
        clear(0, 2, 5, 10) = 32
        clear(0, 5, 5, 10) = 0
        clear(1, 0, 9, 10) = 0

        says terms: TO CLEAR: the fewest STONES (bits) without which that is odds of 10 at least;
        name(12, 9)
        stone(3, true)
        stone(6, true)
        clear(0, 0, 9, 4) = 0
        clear(0, 0, 9, 5) = 8
        clear(0, 0, 9, 7) = 8
        clear(0, 0, 9, 8) = 72
        read breaks 10; = 0
        by(0)
        clear(0, 0, 9, 1) = 72
        read breaks 0; = 1
        by(1)
        clear(0, 0, 9, 10) = 0

        says terms: of like ones the lowest set.
        name(12, 9)
        stone(3, true)
        stone(6, true)
        stone(8, true)
        clear(0, 0, 9, 7) = 72
        clear(0, 0, 9, 4) = 8
        clear(0, 3, 9, 7) = 64
        clear(0, 0, 9, 3) = 0
        clear(0, 0, 9, 10) = 328
        """;

    static final String HALVES_AND_RHYMES = """
        says terms: IV. HALVES (8 at most; told: numbers as SOUNDS):
        half(0) = -2
        half(10) = -2
        half(100000) = -2
        half(111111) = -2
        half(-2) = -2
        half(1) = 1
        half(99999) = 2
        6 times half(1)
        about(5) = 8
        half(1) = -2
        about(5) = 8

        says terms: a pair joins (one, then the other one, both unlike by number told), if their SOUNDS one behind the other are those of a NAME
        name(1234, 9)
        name(11, 9)
        half(34)
        half(12)
        joins(-1) = 1
        joins(0) = 100
        half(-1)
        half(1)
        joins(-1) = 0
        half(1)
        joins(-1) = 1
        joins(0) = 11
        half(-1)
        half(123)
        half(3)
        joins(-1) = 0
        half(4)
        joins(0) = 20
        half(-1)
        half(1234)
        joins(-1) = 0

        says terms: a pair joins (one, then the other one, both unlike by number told), if their SOUNDS one behind the other are those of a NAME
        name(91111, 9)
        name(19999, 9)
        name(99919, 9)
        half(1111)
        half(9)
        half(9999)
        half(1)
        half(999)
        half(19)
        joins(-1) = 3
        joins(0) = 100
        joins(1) = 321
        joins(2) = 452

        says terms: (the lowest such).
        name(13, 9)
        name(12, 9)
        name(12, 9)
        half(1)
        half(2)
        joins(0) = 11
        half(-1)
        half(2)
        half(1)
        joins(0) = 101

        says terms: JOINED: the most pairs, no HALF in two;
        name(12, 9)
        name(13, 9)
        joins(-1) = 0
        half(1)
        half(2)
        half(3)
        joins(-1) = 1
        half(1)
        joins(-1) = 2
        joins(2) = -2
        half(-1)
        name(21, 9)
        name(32, 9)
        half(2)
        half(1)
        half(3)
        joins(-1) = 1
        half(2)
        joins(-1) = 2
        joins(0) = 12
        joins(1) = 233

        says terms: of like ones the lowest pair first (by its one, then its other one), then the next, ...
        name(12, 9)
        name(21, 9)
        half(1)
        half(2)
        half(1)
        half(2)
        joins(-1) = 2
        joins(0) = 10
        joins(1) = 230
        half(1)
        half(2)
        half(2)
        half(1)
        joins(-1) = 4
        joins(0) = 10
        joins(1) = 230
        joins(2) = 450
        joins(3) = 671
        joins(4) = -2

        says terms: LAYERS that hold some NAMES (bits): all LAYERS in which they are.
        name(1, 0)
        name(1, 9)
        name(1, 9)
        name(1, 4)
        layers(0) = 0
        layers(1) = 1
        layers(2) = 512
        layers(6) = 512
        layers(8) = 16
        layers(15) = 529
        layers(16) = -1
        call(0)
        hour(20)
        layers(15) = 529

        says terms: RHYME: how many SOUNDS (as told) at the end two NAMES have in common.
        name(12345, 9)
        name(345, 9)
        name(5, 9)
        name(54321, 9)
        name(12345, 9)
        rhyme(0, 1) = 3
        rhyme(1, 0) = 3
        rhyme(0, 2) = 1
        rhyme(0, 3) = 0
        rhyme(0, 4) = 5
        read breaks 10; = 0
        by(0)
        stone(2, true)
        call(0)
        hour(1)
        of(0, 4) = 123
        rhyme(0, 1) = 3

        says terms: KINDRED: the other NAME of most RHYME (above 0); of like ones the lowest; none.
        name(123, 9)
        kindred(0) = -1
        name(321, 9)
        kindred(0) = -1
        name(93, 9)
        kindred(0) = 2
        name(3, 9)
        kindred(0) = 2
        kindred(2) = 0
        kindred(3) = 0
        name(523, 9)
        kindred(0) = 4
        name(123, 9)
        kindred(0) = 5
        kindred(5) = 0
        """;

    static final String POWER = """
        says terms: POWER of a FAMILY by NETS and THE QUOTA (told, 1 .. 99; at first 10):
        family(9, 1)
        family(1, 1)
        power(0, false) = 1
        power(0, true) = 2
        quota(0) = false
        quota(100) = false
        coalitions() = 1
        quota(9) = true
        power(0, false) = 1
        power(0, true) = 1
        quota(11) = true
        power(0, false) = 0
        quota(1) = true
        power(1, true) = 2
        quota(99) = true
        power(1, false) = 0

        says terms: of all orders of FAMILIES in how many, coming one behind the other, it is the one with which their NETS together first are as much as THE QUOTA, in lowest terms.
        family(4, 1)
        family(2, 1)
        family(1, 1)
        quota(4)
        power(0, false) = 1
        power(0, true) = 1
        power(1, false) = 0
        power(1, true) = 1
        quota(5)
        power(0, false) = 2
        power(0, true) = 3
        power(1, false) = 1
        power(1, true) = 6
        power(2, false) = 1
        power(2, true) = 6
        quota(3)
        power(0, false) = 2
        power(0, true) = 3
        quota(7)
        power(2, false) = 1
        power(2, true) = 3
        quota(8)
        power(0, false) = 0
        power(0, true) = 1
        family(9, 1)
        family(9, 1)
        quota(9)
        power(3, false) = 1
        power(3, true) = 2
        power(4, true) = 2

        says terms: COALITIONS: how many sets of FAMILIES have as much, or more.
        coalitions() = 0
        family(5, 1)
        coalitions() = 0
        family(5, 1)
        coalitions() = 1
        family(4, 1)
        coalitions() = 2
        quota(5)
        coalitions() = 6
        quota(14)
        coalitions() = 1
        quota(15)
        coalitions() = 0
        quota(1)
        coalitions() = 7

        says terms: DUMMIES: FAMILIES (bits) without POWER.
        dummies() = 0
        family(9, 1)
        family(3, 1)
        family(2, 1)
        quota(9)
        dummies() = 6
        quota(11)
        dummies() = 0
        quota(12)
        dummies() = 4
        quota(14)
        dummies() = 0
        quota(15)
        dummies() = 7

        says terms: VETO: FAMILIES (bits) that are in all COALITIONS (all, if there are none).
        veto() = 0
        family(9, 1)
        family(3, 1)
        family(2, 1)
        quota(5)
        veto() = 0
        quota(6)
        veto() = 1
        quota(12)
        veto() = 3
        quota(14)
        veto() = 7
        coalitions() = 1
        quota(15)
        coalitions() = 0
        veto() = 7

        says terms: WHOSE LAW (told: SAID, 8 at most: a NAME, melts -99 .. 99):
        said(0, 1) = -2
        name(1, 9)
        said(0, -100) = -2
        said(0, 100) = -2
        said(1, 1) = -2
        about(6) = 0
        said(0, -99) = 1
        said(0, 99) = 2
        6 times said(0, 0)
        about(6) = 8
        said(0, 0) = -2
        about(6) = 8

        says terms: TEXTS (bits) by whose melts all are so (as now).
        name(1, 2)
        name(1, 4)
        whose() = 0
        read melts layer; = 0
        read melts warm+2; = 1
        read breaks 4; = 2
        read melts layer;lay 1; = 3
        whose() = 15
        said(0, 2)
        whose() = 11
        said(1, 4)
        whose() = 9
        hour(1)
        whose() = 9
        said(-1, 0)
        said(0, 9)
        whose() = 2
        said(1, 3)
        whose() = 0
        said(-1, 0)
        said(0, 5)
        said(1, 3)
        whose() = 4

        says terms: RICHEST: the FAMILY that has most NAMES (one at least); of like ones the lowest; none.
        name(1, 9)
        name(1, 9)
        name(1, 9)
        richest() = -1
        family(1, 9)
        family(1, 2)
        family(1, 4)
        richest() = -1
        call(0)
        call(1)
        hour(1) = 2
        richest() = 1
        sink(0)
        stand(1, 9)
        hour(2) = 1
        of(0, 3) = 22
        richest() = 1
        stand(2, 1)
        stand(0, 2)
        call(2)
        hour(1) = 1
        of(2, 3) = 20
        richest() = 0
        sink(1)
        stand(0, 9)
        stand(2, 2)
        hour(1) = 1
        of(1, 3) = 22
        richest() = 2

        says terms: NEXT TO THE MILL: the NAME in the greatest CELL of the stream (not milled); of like ones the lowest; none.
        next() = -1
        name(1, 9)
        name(1, 9)
        name(1, 9)
        next() = -1
        call(2)
        next() = 2
        call(1)
        next() = 1
        hour(1)
        call(0)
        next() = 1
        hour(3)
        of(1, 3) = 8
        of(0, 3) = 6
        hour(1)
        of(1, 3) = 10
        next() = 0
        hour(1)
        of(0, 3) = 10
        next() = -1

        says terms: FROZEN: NAMES (bits) in the ice.
        frozen() = 0
        6 times name(1, 9)
        frozen() = 63
        call(5)
        frozen() = 31
        call(0)
        frozen() = 30
        hour(5)
        frozen() = 30

        says terms: BY THE BOOK: how many lines there are of a kind.
        name(1234, 9)
        name(1, 9)
        name(1, 9)
        read breaks 10; = 0
        by(0)
        ledger(0) = 0
        ledger(1) = 0
        ledger(2) = 0
        family(9, 4)
        stone(2, true)
        call(0)
        call(1)
        hour(2) = 2
        ledger(0) = 2
        ledger(1) = 0
        ledger(2) = 1
        stand(0, 9)
        call(2)
        hour(20)
        ledger(0) = 2
        ledger(1) = 1
        ledger(2) = 1
        """;

    static final String SPRINGS = """
        says terms: V. SPRINGS by a SEED: X is SEED (0 .. 9999) * 2 + 307;
        springs(-1, 1) = -1
        springs(10000, 1) = -1
        is(1) = 307
        springs(1, 1) = 0
        is(1) = 20535
        springs(0, 1) = 1
        is(1) = 3285
        springs(9999, 1) = 2
        is(1) = 3715

        says terms: n times (1 .. 40):
        springs(0, 0) = -1
        springs(0, -1) = -1
        springs(0, 41) = -1
        is(0) = 0
        is(1) = 307
        springs(0, 1) = 1
        springs(0, 2) = 2
        is(1) = 3508
        springs(0, 40) = 19
        is(1) = 22126
        springs(0, 39) = 35
        is(1) = 9462

        says terms: x is X, X anew (as in a draw): x mod 7:
        springs(1, 1) = 0
        is(1) = 20535
        undo()
        springs(3, 1) = 1
        is(2) = 7
        is(1) = 27946

        says terms: x is X, X anew (as in a draw): x mod 7:
        name(1, 9)
        name(1, 9)
        name(1, 9)
        family(1, 2)
        call(2)
        hour(1) = 1
        stone(3, true)
        springs(4, 1) = 1
        is(3) = 8
        ofFamily(0, 1) = 2
        of(0, 3) = 0
        of(1, 3) = -1
        of(2, 3) = 20
        undo()
        springs(1, 1) = 1
        is(3) = 24
        ofFamily(0, 1) = 2
        frozen() = 3
        of(2, 3) = 20
        stone(5, true)
        springs(5, 1) = 1
        is(3) = 24
        ofFamily(0, 1) = 2
        frozen() = 3
        of(2, 3) = 20
        springs(2, 1) = 1
        ofFamily(0, 1) = 4
        is(3) = 24
        frozen() = 3
        of(2, 3) = 20
        springs(20, 1) = 1
        of(2, 3) = 0
        is(3) = 24
        frozen() = 3
        is(1) = 11156

        says terms: 0 NAME x mod how many is CALLED;
        name(1, 9)
        name(1, 9)
        name(1, 9)
        name(1, 9)
        springs(4, 1) = 0
        frozen() = 7
        name(1, 9)
        springs(4, 1) = 0
        frozen() = 22
        springs(4, 1) = 0
        frozen() = 22
        about(4) = 3

        says terms: 1 a STONE is laid in CELL x / 7 mod 10, 2 taken away there;
        springs(1, 1) = 0
        is(3) = 16
        springs(1, 1) = 0
        is(3) = 16
        stone(5, true)
        stone(6, true)
        springs(5, 1) = 0
        is(3) = 80
        springs(5, 1) = 0
        is(3) = 80
        springs(36, 1) = 0
        is(3) = 80
        springs(8, 1) = 0
        is(3) = 80

        says terms: 3 FAMILY x mod how many stands in CELL x / 7 mod 10;
        family(1, 0)
        family(1, 0)
        springs(2, 1) = 0
        ofFamily(0, 1) = 0
        ofFamily(1, 1) = 4
        family(1, 0)
        springs(2, 1) = 0
        ofFamily(2, 1) = 4
        springs(9, 1) = 0
        ofFamily(1, 1) = 6

        says terms: 4 NAME x mod how many is PUT BACK (each if it can be);
        name(1, 9)
        name(1, 9)
        name(1, 9)
        family(9, 2)
        springs(6, 1) = 0
        frozen() = 7
        call(0)
        call(1)
        springs(6, 1) = 0
        of(1, 3) = 0
        hour(1) = 2
        springs(6, 1) = 1
        of(0, 3) = 20
        of(1, 3) = 0
        of(2, 3) = -1

        says terms: 5, 6 an HOUR (if it can pass).
        springs(3, 1) = 1
        springs(0, 1) = 2
        165 times hour(60)
        hour(37)
        is(0) = 9939
        hour(60)
        is(0) = 9999
        springs(0, 1) = 9999
        is(1) = 19409
        springs(3, 1) = 9999
        is(1) = 22787

        says terms: What there are none of isn't.
        springs(4, 1) = 0
        is(1) = 23913
        springs(2, 1) = 0
        is(1) = 21661
        springs(6, 1) = 0
        is(1) = 26165
        springs(0, 40) = 17
        is(1) = 22126
        frozen() = 0

        says terms: It is one STEP: HOUR.
        name(1, 9)
        family(1, 2)
        hour(1)
        about(4) = 1
        springs(0, 40) = 18
        about(4) = 2
        undo() = 1
        is(0) = 1
        is(1) = 19409
        is(2) = 7
        is(3) = 0
        of(0, 3) = -1
        ofFamily(0, 1) = 2
        springs(4, 1) = 1
        of(0, 3) = 0
        undo() = 1
        of(0, 3) = -1

        says terms: AN IMAGE: all as it is, but the tape and the latest FAULT.
        read ; = -1
        tape abc
        image() = 0
        tape abcdef
        back() = 0
        about(7) = 6
        end(0) = 0
        read lay 1;; = -1
        back() = 0
        about(7) = 0
        fault(0) = 1
        fault(1) = 6
        read lay 1; = 0
        back() = 0
        fault(0) = 0
        fault(1) = -1
        about(2) = 0

        says terms: BACK: all is so again.
        name(1234, 9)
        name(12, 9)
        family(3, 4)
        family(2, 6)
        eddy(3, true)
        read breaks 10; = 0
        read melts 5; = 1
        by(0)
        call(0)
        stone(2, true)
        hour(1)
        wants(0, 0, 3)
        favours(0, 0, 3)
        give(0, 0)
        half(3)
        half(4)
        quota(5)
        said(0, 5)
        image() = 1
        name(34, 1)
        family(9, 1)
        eddy(3, false)
        by(1)
        read melts 7; = 2
        hour(2)
        stone(5, true)
        stand(0, 7)
        wants(0, 0, 0)
        wants(1, 1, 9)
        favours(0, 1, 9)
        give(0, -1)
        half(5)
        quota(50)
        said(-1, 0)
        back() = 1
        about(0) = 2
        about(1) = 2
        about(2) = 2
        about(3) = 0
        about(4) = 3
        about(5) = 2
        about(6) = 1
        is(0) = 1
        is(1) = 3285
        is(2) = 7
        is(3) = 4
        is(4) = 8
        of(0, 2) = 2
        of(0, 3) = 2
        of(1, 3) = -1
        ofFamily(0, 1) = 4
        ofFamily(1, 2) = 0
        book(-1, 0) = 1
        book(0, 2) = 2
        gladdest(0) = 0
        gladdest(1) = -1
        rests() = 0
        joins(-1) = 0
        coalitions() = 1
        whose() = 2
        undo() = 2
        of(0, 2) = 4
        undo() = 1
        is(3) = 0
        undo() = 0
        of(0, 3) = -1
        undo() = -1
        back() = 1
        about(4) = 3
        is(1) = 3285

        says terms: BACK: all is so again.
        6 times name(1, 9)
        5 times family(1, 1)
        wants(3, 5, 7)
        wants(4, 5, 7)
        favours(5, 4, 7)
        half(1)
        half(2)
        read melts 5; = 0
        said(0, 5)
        said(5, 5)
        give(4, 5)
        image() = 0
        wants(4, 5, 0)
        wants(3, 4, 9)
        favours(5, 4, 0)
        half(-1)
        half(3)
        half(4)
        said(-1, 0)
        said(1, 6)
        said(1, 6)
        give(4, -1)
        give(3, 5)
        back() = 0
        gladdest(4) = 5
        gladdest(3) = 5
        stable(4, true) = 5
        stable(3, true) = -1
        rests() = 0
        whose() = 1
        about(5) = 2
        about(6) = 2

        says terms: BACK: all is so again.
        4 times name(1, 9)
        read melts who; = 0
        said(3, 3)
        said(2, 2)
        image()
        said(-1, 0)
        said(1, 3)
        said(0, 2)
        whose() = 0
        back()
        whose() = 1
        about(6) = 2

        says terms: BACK: all is so again.
        name(12, 9)
        half(1)
        half(2)
        joins(0) = 10
        image()
        half(-1)
        half(2)
        half(3)
        joins(-1) = 0
        back()
        joins(-1) = 1
        joins(0) = 10
        half(2) = 3

        says terms: BACK: all is so again.
        name(1, 9)
        stone(1, true)
        stone(2, true)
        call(0)
        hour(2)
        image() = 2
        4 times undo()
        stone(7, true)
        stone(8, true)
        hour(25)
        stone(9, true)
        hour(3)
        back() = 2
        about(4) = 5
        undo() = 4
        is(0) = 1
        is(3) = 6
        of(0, 3) = 2
        undo() = 3
        of(0, 3) = 0
        undo() = 2
        of(0, 3) = -1
        is(3) = 6
        undo() = 1
        is(3) = 2
        undo() = 0
        is(3) = 0
        undo() = -1
        hour(40)
        image() = 40
        hour(7)
        back() = 40
        29 times undo()
        is(0) = 11
        undo() = 0
        is(0) = 10
        undo() = -1

        says terms: The constants: `NONE = -1`: None.
        by(-1) = true
        name(0, 0) = -1
        """;

    private SentencesOfAsking() {
    }
}
