/** Promises 31 to 38: each sentence that names an edge of the sheets, of what is counted and of the digest. */
public final class SheetEdgesTest extends Checks {
    public static void main(String[] args) {
        runAll(SheetEdgesTest.class);
    }

    // ---- promise 31: A SHEET is a new row of a FORM with n items: n. BAD: SHEET, FORM, above 60; SIZE.

    static void aSheetMayHave0To60Items() {
        for (int s = 0; s < 4; s++) {
            for (int form = 0; form < 3; form++) {
                ShadowTheatre x = new ShadowTheatre();
                is(x.sheet(s, form, 0), 0);
                is(x.get(s, form, 0), LEAST);
                is(x.count(8), 2);
                is(x.sheet(s, form, 60), 60);
                is(x.get(s, form, 59), 0);
                is(x.get(s, form, 60), LEAST);
                is(x.lose(s), 60);
                is(x.sheet(s, form, 1), 1);
                is(x.lose(s), 1);
            }
        }
    }

    static void itemsAre0AtFirst() {
        for (int form = 0; form < 3; form++) {
            ShadowTheatre x = new ShadowTheatre();
            x.sheet(2, form, 60);
            for (int i = 0; i < 60; i++) is(x.get(2, form, i), 0);
        }
    }

    static void aNewRowHasNothingOfTheOldOne() {
        for (int form = 0; form < 3; form++) {
            ShadowTheatre x = new ShadowTheatre();
            x.sheet(2, form, 60);
            for (int i = 0; i < 60; i++) x.lay(2, form, i, 1 + i);
            is(x.sheet(2, form, 60), 60);
            for (int i = 0; i < 60; i++) is(x.get(2, form, i), 0);
        }
    }

    static void aShorterRowHidesNothingForALongerOne() {
        ShadowTheatre x = new ShadowTheatre();
        x.sheet(0, 2, 60);
        for (int i = 0; i < 60; i++) x.lay(0, 2, i, 7);
        is(x.sheet(0, 2, 3), 3);
        rowIs(x, 0, 0, 0, 0);
        is(x.sheet(0, 2, 60), 60);
        for (int i = 0; i < 60; i++) is(x.get(0, 2, i), 0);
    }

    static void aNewRowMayHaveAnotherForm() {
        ShadowTheatre x = new ShadowTheatre();
        x.sheet(0, 0, 2);
        is(x.sheet(0, 2, 2), 2);
        is(x.lay(0, 2, 0, 1000), 1);
        is(x.get(0, 2, 0), 1000);
        is(x.get(0, 0, 0), LEAST);
        is(x.count(8), 3);
        is(x.sheet(0, 1, 2), 2);
        is(x.get(0, 1, 0), 0);
    }

    static void aSheetIsMadeAnewFromALostOne() {
        ShadowTheatre x = new ShadowTheatre();
        row(x, 3, 1, 2);
        is(x.lose(3), 2);
        is(x.sheet(3, 2, 2), 2);
        rowIs(x, 3, 0, 0);
    }

    static void theOtherSheetsStayAsTheyAre() {
        ShadowTheatre x = new ShadowTheatre();
        for (int s = 0; s < 4; s++) row(x, s, 10 + s, 20 + s);
        x.sheet(1, 2, 5);
        x.lay(1, 2, 0, 99);
        x.lose(2);
        rowIs(x, 0, 10, 20);
        rowIs(x, 1, 99, 0, 0, 0, 0);
        rowIs(x, 3, 13, 23);
    }

    static void sheetRefusesSheetsFormsAndAbove60() {
        for (int v : new int[] {-1, 4, LEAST, MOST}) bad(x -> x.sheet(v, 0, 5));
        for (int v : new int[] {-1, 3, LEAST, MOST}) bad(x -> x.sheet(0, v, 5));
        for (int v : new int[] {61, 100, MOST}) bad(x -> x.sheet(0, 0, v));
        for (int v : new int[] {61, MOST}) bad(x -> x.sheet(3, 2, v));
    }

    static void sheetBelow0IsSize() {
        for (int v : new int[] {-1, -60, -61, LEAST}) {
            found(x -> x.sheet(0, 0, v), SIZE);
            found(x -> x.sheet(3, 2, v), SIZE);
        }
    }

    static void aBadSheetOrFormIsToldAheadOfSize() {
        for (int n : new int[] {-1, LEAST}) {
            bad(x -> x.sheet(-1, 0, n));
            bad(x -> x.sheet(4, 0, n));
            bad(x -> x.sheet(0, -1, n));
            bad(x -> x.sheet(0, 3, n));
        }
    }

    // ---- promise 32: It is LOST: how many items it had. BAD; NULL.

    static void loseTellsHowManyItemsThereWere() {
        for (int n : new int[] {0, 1, 59, 60}) {
            ShadowTheatre x = new ShadowTheatre();
            x.sheet(0, 1, n);
            is(x.lose(0), n);
            is(x.count(8), 0);
            is(x.lose(0), NULL);
            is(x.count(8), 1);
        }
    }

    static void aLostSheetIsNullForAll() {
        ShadowTheatre x = rich();
        x.lose(1);
        is(x.read(1), NULL);
        is(x.lay(1, 1, 0, 0), NULL);
        is(x.get(1, 1, 0), LEAST);
        is(x.copy(1, 0, 0, 0, 0), NULL);
        is(x.copy(0, 0, 1, 0, 0), NULL);
        is(x.write(0, 1), NULL);
        is(x.lose(1), NULL);
        is(x.count(8), 1);
    }

    static void loseRefusesSheetsAndLostOnes() {
        for (int v : new int[] {-1, 4, LEAST, MOST}) bad(x -> x.lose(v));
        found(x -> x.lose(3), NULL);
        for (int s = 0; s < 4; s++) {
            int lost = s;
            changesNothing(ShadowTheatre::new, x -> x.lose(lost), NULL, 1);
        }
    }

    // ---- promises 33 and 34: the lowest bits that it has, with its sign

    private static void lays(int form, int v, int want) {
        ShadowTheatre x = new ShadowTheatre();
        x.sheet(1, form, 1);
        is(x.lay(1, form, 0, v), 1);
        is(x.get(1, form, 0), want);
        is(x.count(8), 0);
    }

    static void bytesKeep8BitsWithTheirSign() {
        int[][] rows = {{0, 0}, {127, 127}, {128, -128}, {255, -1}, {256, 0}, {-1, -1}, {-128, -128}, {-129, 127},
            {LEAST, 0}, {MOST, -1}, {0x12345680, -128}, {0x1234567F, 127}};
        for (int[] r : rows) lays(0, r[0], r[1]);
    }

    static void shortsKeep16BitsWithTheirSign() {
        int[][] rows = {{0, 0}, {128, 128}, {32767, 32767}, {32768, -32768}, {65535, -1}, {65536, 0}, {-1, -1},
            {-32768, -32768}, {-32769, 32767}, {LEAST, 0}, {MOST, -1}, {0x12348000, -32768}, {0x12347FFF, 32767}};
        for (int[] r : rows) lays(1, r[0], r[1]);
    }

    static void intsKeepAllBits() {
        for (int v : new int[] {0, 127, 128, 255, 32767, 32768, 65535, 65536, -1, -32769, LEAST, LEAST + 1, MOST}) lays(2, v, v);
    }

    static void theLeastIntInASheetIsNoRefusal() {
        ShadowTheatre x = new ShadowTheatre();
        row(x, 0, LEAST);
        is(x.get(0, 2, 0), LEAST);
        is(x.count(8), 0);
    }

    static void layAndGetTakeTheFirstAndTheLastItem() {
        for (int n : new int[] {1, 2, 60}) {
            for (int form = 0; form < 3; form++) {
                ShadowTheatre x = new ShadowTheatre();
                x.sheet(3, form, n);
                is(x.lay(3, form, 0, 5), 1);
                is(x.lay(3, form, n - 1, 6), 1);
                is(x.get(3, form, 0), n == 1 ? 6 : 5);
                is(x.get(3, form, n - 1), 6);
                is(x.lay(3, form, n, 7), INDEX);
                is(x.lay(3, form, -1, 7), INDEX);
                is(x.get(3, form, n), LEAST);
                is(x.get(3, form, -1), LEAST);
                is(x.count(8), 2);
            }
        }
    }

    static void layChangesThatItemAlone() {
        ShadowTheatre x = new ShadowTheatre();
        row(x, 0, 1, 2, 3, 4);
        is(x.lay(0, 2, 2, 9), 1);
        rowIs(x, 0, 1, 2, 9, 4);
    }

    static void laySaysBadAheadOfAllElse() {
        for (int v : new int[] {-1, 4, LEAST, MOST}) bad(x -> x.lay(v, 0, 0, 0));
        for (int v : new int[] {-1, 3, LEAST, MOST}) {
            bad(x -> x.lay(0, v, 0, 0));
            bad(x -> x.lay(3, v, 0, 0));
            bad(x -> x.lay(0, v, 99, 0));
        }
        bad(x -> x.lay(4, 0, 99, 0));
    }

    static void laySaysNullAheadOfCastAndIndex() {
        for (int form = 0; form < 3; form++) {
            int f = form;
            for (int i : new int[] {0, -1, 60, LEAST, MOST}) {
                found(x -> x.lay(3, f, i, 0), NULL);
                changesNothing(() -> { ShadowTheatre x = rich(); x.lose(0); return x; }, x -> x.lay(0, f, i, 0), NULL, 1);
            }
        }
    }

    static void laySaysCastAheadOfIndex() {
        for (int s = 0; s < 3; s++) {
            for (int form = 0; form < 3; form++) {
                if (s == form) continue;
                int sheet = s, f = form;
                for (int i : new int[] {0, 4, 5, -1, LEAST, MOST}) found(x -> x.lay(sheet, f, i, 0), CAST);
            }
        }
    }

    static void layOutsideIsIndex() {
        for (int s = 0; s < 3; s++) {
            int sheet = s;
            for (int i : new int[] {-1, 5, 59, 60, LEAST, MOST}) found(x -> x.lay(sheet, sheet, i, 0), INDEX);
        }
    }

    static void getSaysBadAheadOfAllElse() {
        for (int v : new int[] {-1, 4, LEAST, MOST}) refused(x -> x.get(v, 0, 0), LEAST, 2);
        for (int v : new int[] {-1, 3, LEAST, MOST}) {
            changesNothing(ShadowTheatre::new, x -> x.get(0, v, 0), LEAST, 0);
            changesNothing(ShadowTheatre::new, x -> x.get(0, v, 99), LEAST, 0);
            refused(x -> x.get(0, v, 0), LEAST, 2);
        }
        changesNothing(ShadowTheatre::new, x -> x.get(4, 0, 0), LEAST, 0);
        changesNothing(ShadowTheatre::new, x -> x.get(-1, 0, 99), LEAST, 0);
    }

    static void getSaysNullAheadOfCastAndIndex() {
        for (int form = 0; form < 3; form++) {
            int f = form;
            for (int i : new int[] {0, -1, 60}) refused(x -> x.get(3, f, i), LEAST, 1);
        }
    }

    static void getSaysCastAheadOfIndex() {
        for (int s = 0; s < 3; s++) {
            for (int form = 0; form < 3; form++) {
                if (s == form) continue;
                int sheet = s, f = form;
                for (int i : new int[] {0, 4, 5, -1, LEAST, MOST}) refused(x -> x.get(sheet, f, i), LEAST, 3);
            }
        }
    }

    static void getOutsideIsIndex() {
        for (int i : new int[] {-1, 5, 59, 60, LEAST, MOST}) {
            changesNothing(() -> { ShadowTheatre x = rich(); x.lose(3); return x; }, x -> x.get(1, 1, i), LEAST, 2);
        }
    }

    // ---- promise 35: copy

    private static ShadowTheatre two() {
        ShadowTheatre x = new ShadowTheatre();
        row(x, 0, 1, 2, 3, 4, 5);
        row(x, 1, 6, 7, 8);
        return x;
    }

    static void copyOfAllItems() {
        ShadowTheatre x = two();
        is(x.copy(1, 0, 0, 0, 3), 1);
        rowIs(x, 0, 6, 7, 8, 4, 5);
        is(x.copy(0, 2, 1, 0, 3), 1);
        rowIs(x, 1, 8, 4, 5);
        rowIs(x, 0, 6, 7, 8, 4, 5);
        x.sheet(2, 2, 60);
        x.sheet(3, 2, 60);
        x.lay(2, 2, 0, 1);
        x.lay(2, 2, 59, 2);
        is(x.copy(2, 0, 3, 0, 60), 1);
        is(x.get(3, 2, 0), 1);
        is(x.get(3, 2, 59), 2);
    }

    static void copyOfTheLastItem() {
        ShadowTheatre x = two();
        is(x.copy(0, 4, 1, 2, 1), 1);
        rowIs(x, 1, 6, 7, 5);
        is(x.copy(1, 0, 0, 4, 1), 1);
        rowIs(x, 0, 1, 2, 3, 4, 6);
    }

    static void copyWithinASheetTakesTheItemsAsTheyWere() {
        ShadowTheatre x = two();
        is(x.copy(0, 0, 0, 1, 4), 1);
        rowIs(x, 0, 1, 1, 2, 3, 4);
        x = two();
        is(x.copy(0, 1, 0, 0, 4), 1);
        rowIs(x, 0, 2, 3, 4, 5, 5);
        x = two();
        is(x.copy(0, 0, 0, 2, 3), 1);
        rowIs(x, 0, 1, 2, 1, 2, 3);
        x = two();
        is(x.copy(0, 0, 0, 0, 5), 1);
        rowIs(x, 0, 1, 2, 3, 4, 5);
    }

    static void copyOfNoItemsChangesNothing() {
        int[][] well = {{0, 0, 1, 0}, {0, 5, 1, 3}, {0, 5, 1, 0}, {0, 0, 1, 3}, {1, 3, 0, 5}, {0, 5, 0, 5}, {0, 5, 0, 0}, {0, 0, 0, 5}};
        for (int[] c : well) {
            ShadowTheatre x = two();
            is(x.copy(c[0], c[1], c[2], c[3], 0), 1);
            is(x.count(8), 0);
            rowIs(x, 0, 1, 2, 3, 4, 5);
            rowIs(x, 1, 6, 7, 8);
        }
        ShadowTheatre x = new ShadowTheatre();
        x.sheet(0, 0, 0);
        x.sheet(1, 0, 0);
        is(x.copy(0, 0, 1, 0, 0), 1);
        is(x.copy(0, 1, 1, 0, 0), INDEX);
        is(x.copy(0, 0, 1, 1, 0), INDEX);
    }

    private static void copyIsIndex(int s, int i, int t, int j, int n) {
        ShadowTheatre x = two();
        is(x.copy(s, i, t, j, n), INDEX);
        is(x.count(8), 2);
        rowIs(x, 0, 1, 2, 3, 4, 5);
        rowIs(x, 1, 6, 7, 8);
    }

    static void copyOfNoItemsFromBehindTheEndIsIndex() {
        copyIsIndex(0, 6, 1, 0, 0);
        copyIsIndex(0, 0, 1, 4, 0);
        copyIsIndex(0, -1, 1, 0, 0);
        copyIsIndex(0, 0, 1, -1, 0);
        copyIsIndex(1, 4, 1, 0, 0);
        copyIsIndex(0, LEAST, 0, 0, 0);
        copyIsIndex(0, 0, 0, MOST, 0);
    }

    static void copyOfNotSoManyIsIndex() {
        copyIsIndex(0, 0, 1, 0, 4);
        copyIsIndex(1, 0, 0, 0, 4);
        copyIsIndex(1, 1, 0, 0, 3);
        copyIsIndex(0, 0, 1, 1, 3);
        copyIsIndex(1, 3, 0, 0, 1);
        copyIsIndex(0, 0, 1, 3, 1);
        copyIsIndex(0, 1, 0, 0, 5);
        copyIsIndex(0, 0, 0, 1, 5);
        copyIsIndex(0, 0, 0, 0, 6);
    }

    static void copyBelow0IsIndex() {
        copyIsIndex(0, -1, 1, 0, 1);
        copyIsIndex(0, 0, 1, -1, 1);
        copyIsIndex(0, 0, 1, 0, -1);
        copyIsIndex(0, -1, 1, -1, -1);
        copyIsIndex(0, 5, 1, 3, -1);
        copyIsIndex(0, LEAST, 1, 0, 1);
        copyIsIndex(0, 0, 1, LEAST, 1);
        copyIsIndex(0, 0, 1, 0, LEAST);
        copyIsIndex(0, 3, 1, 3, -3);
    }

    static void copyOfNumbersThatWouldWrapIsIndex() {
        copyIsIndex(0, MOST, 1, 0, 1);
        copyIsIndex(0, 0, 1, MOST, 1);
        copyIsIndex(0, 0, 1, 0, MOST);
        copyIsIndex(0, 1, 1, 1, MOST);
        copyIsIndex(0, MOST, 1, MOST, MOST);
        copyIsIndex(0, LEAST, 1, LEAST, LEAST);
        copyIsIndex(0, LEAST, 1, 0, MOST);
        copyIsIndex(0, MOST, 1, 0, LEAST);
        copyIsIndex(0, MOST, 1, 0, 2);
    }

    static void copySaysBadAheadOfAllElse() {
        for (int v : new int[] {-1, 4, LEAST, MOST}) {
            bad(x -> x.copy(v, 0, 0, 0, 0));
            bad(x -> x.copy(0, 0, v, 0, 0));
            bad(x -> x.copy(v, 0, 3, 0, 0));
            bad(x -> x.copy(3, 0, v, 0, 0));
            bad(x -> x.copy(v, -1, 1, 99, -1));
            bad(x -> x.copy(0, -1, v, 99, -1));
        }
    }

    static void copySaysNullAheadOfStoreAndIndex() {
        for (int s = 0; s < 4; s++) {
            int other = s;
            for (int i : new int[] {0, -1, 99}) {
                found(x -> x.copy(3, i, other, 0, 0), NULL);
                found(x -> x.copy(other, i, 3, 0, 0), NULL);
            }
        }
        changesNothing(() -> { ShadowTheatre x = rich(); x.lose(1); return x; }, x -> x.copy(1, 0, 0, 0, 1), NULL, 1);
        changesNothing(() -> { ShadowTheatre x = rich(); x.lose(1); return x; }, x -> x.copy(0, 0, 1, 0, 1), NULL, 1);
    }

    static void copySaysStoreAheadOfIndex() {
        for (int s = 0; s < 3; s++) {
            for (int t = 0; t < 3; t++) {
                if (s == t) continue;
                int from = s, to = t;
                found(x -> x.copy(from, 0, to, 0, 0), STORE);
                found(x -> x.copy(from, 0, to, 0, 1), STORE);
                found(x -> x.copy(from, -1, to, 0, 1), STORE);
                found(x -> x.copy(from, 0, to, 6, 0), STORE);
                found(x -> x.copy(from, 0, to, 0, -1), STORE);
                found(x -> x.copy(from, 0, to, 0, MOST), STORE);
            }
        }
    }

    static void copyBetweenSheetsOfEachForm() {
        for (int form = 0; form < 3; form++) {
            ShadowTheatre x = new ShadowTheatre();
            x.sheet(2, form, 2);
            x.sheet(3, form, 1);
            x.lay(2, form, 1, -1);
            is(x.copy(2, 1, 3, 0, 1), 1);
            is(x.get(3, form, 0), -1);
        }
    }

    // ---- promise 36: from item 0 on, as many as there are items, 32 at most: how many. BAD; NULL.

    static void writeTakesAsManyAsThereAreItems32AtMost() {
        for (int form = 0; form < 3; form++) {
            for (int n : new int[] {0, 1, 31, 32, 33, 60}) {
                ShadowTheatre x = figures("800r#;831b#");
                x.sheet(0, form, n);
                for (int i = 0; i < n; i++) x.lay(0, form, i, 99);
                is(x.write(0, 0), Math.min(n, 32));
                for (int i = 0; i < n; i++) is(x.get(0, form, i), i == 0 ? 4 : i == 31 ? 1 : i < 32 ? 7 : 99);
            }
        }
    }

    static void writeTakesStep0AndStep19() {
        ShadowTheatre x = told("800r#", times(19, "..") + "ar", "");
        x.sheet(0, 2, 2);
        is(x.write(0, 0), 2);
        rowIs(x, 0, 4, 7);
        is(x.write(18, 0), 2);
        rowIs(x, 0, 4, 7);
        is(x.write(19, 0), 2);
        rowIs(x, 0, 7, 4);
    }

    static void writeInAFlickerBrings0() {
        ShadowTheatre x = figures("800r#");
        row(x, 0, 9, 9, 9);
        flickers(x, 3);
        is(x.write(3, 0), 3);
        rowIs(x, 0, 0, 0, 0);
    }

    static void writtenLightsMayBeReadAsFlickers() {
        ShadowTheatre x = figures("800k#;801r#;802g#;803b#");
        x.sheet(0, 0, 5);
        x.write(0, 0);
        is(x.read(0), 5);
        int[] out = {0, 4, 2, 1, 7};
        for (int step = 0; step < STEPS; step++) {
            boolean dark = false;
            for (int o : out) dark |= o == step;
            is(x.light(step, 31), dark ? 0 : 7);
        }
    }

    static void writeSaysBadAheadOfNull() {
        for (int v : new int[] {-1, 20, LEAST, MOST}) {
            bad(x -> x.write(v, 0));
            bad(x -> x.write(v, 3));
        }
        for (int v : new int[] {-1, 4, LEAST, MOST}) bad(x -> x.write(0, v));
        found(x -> x.write(0, 3), NULL);
        found(x -> x.write(19, 3), NULL);
    }

    // ---- promise 37: count

    static void countOfWhatIsFull() {
        ShadowTheatre x = full();
        int[] want = {8, 20, 28, 87, 40, 32, 8, 8, 2};
        for (int what = 0; what <= 8; what++) is(x.count(what), want[what]);
    }

    static void countOfWhatIsEmptyAgain() {
        ShadowTheatre x = full();
        for (int text = 0; text < 3; text++) x.wipe(text);
        x.forget();
        for (int n = 8; n > 0; n--) x.back();
        for (int what = 0; what < 8; what++) is(x.count(what), 0);
        is(x.count(8), 2);
    }

    static void cuesOfAPointAreNotCounted() {
        is(told("", times(20, ".."), "").count(1), 0);
        is(told("", times(19, "..") + "hb", "").count(1), 1);
        is(told("", "al" + times(19, ".."), "").count(1), 1);
        is(told("", times(20, "hb"), "").count(1), 20);
    }

    static void cellsOfWhateverAreNotCounted() {
        is(told("", "", times(32, ".")).count(2), 0);
        is(told("", "", times(31, ".") + "0").count(2), 1);
        is(told("", "", "7" + times(31, ".")).count(2), 1);
        is(told("", "", times(32, "0")).count(2), 32);
    }

    static void textsWithAFaultCountTheirBytesAlone() {
        ShadowTheatre x = told("816k#;", "ara", "07x");
        int[] want = {0, 0, 0, 6, 3, 3};
        for (int what = 0; what < 6; what++) is(x.count(what), want[what]);
    }

    static void theLatestFindingIs0BeforeAny() {
        ShadowTheatre x = new ShadowTheatre();
        x.sheet(9, 9, 9);
        x.undo(0);
        x.back();
        x.get(9, 0, 0);
        x.stumble(-1, 0, 0, 0);
        for (int n = 0; n < 9; n++) x.flicker(0);
        is(x.count(8), 0);
    }

    static void theLatestFindingIsToldAndStays() {
        ShadowTheatre x = new ShadowTheatre();
        x.read(0);
        is(x.count(8), 1);
        x.sheet(0, 0, 1);
        x.sheet(1, 1, 1);
        is(x.count(8), 1);
        x.get(0, 0, 1);
        is(x.count(8), 2);
        x.get(0, 1, 0);
        is(x.count(8), 3);
        x.copy(0, 0, 1, 0, 0);
        is(x.count(8), 4);
        x.sheet(0, 0, -1);
        is(x.count(8), 5);
        x.get(0, 0, 0);
        x.type(3, 0);
        x.undo(0);
        x.digest();
        is(x.count(8), 5);
        x.lose(2);
        is(x.count(8), 1);
    }

    static void countRefusesMinus1And9() {
        for (int v : new int[] {-1, 9, LEAST, MOST}) {
            bad(x -> x.count(v));
            changesNothing(Checks::full, x -> x.count(v), BAD, 2);
        }
    }

    // ---- promise 38: digest; longs that wrap

    private static long mix(long hash, long... all) {
        long h = hash;
        for (long v : all) h = 31 * h + v;
        return h;
    }

    static void digestOfANewObject() {
        long h = mix(17, 0, 0, 0, 0, 0, 0, 0, 0, NONE, NONE, NONE);
        for (int step = 0; step < STEPS; step++) h = mix(h, NONE, NONE, 0, 0);
        for (int cell = 0; cell < CELLS; cell++) h = mix(h, NONE, 7, 7, 7, 0);
        h = mix(h, NONE, 0, NONE, NONE, NONE, 0);
        for (int step = 0; step < 3; step++) h = mix(h, 0, 0, NONE, NONE);
        h = mix(h, NONE, NONE, 0, 0, 1, 0, 0);
        is(new ShadowTheatre().digest(), h);
    }

    static void digestOfOneFigure() {
        // at PLACE 31 of DEPTH 8 it COVERS CELL 31 alone; no PICTURE, one CUE that does nothing
        ShadowTheatre x = told("831k#", "ar", "");
        long h = mix(17, 1, 1, 0, 5, 2, 0, 0, 0, NONE, NONE, NONE);
        for (int step = 0; step < STEPS; step++) h = mix(h, step == 0 ? 0 : NONE, step == 0 ? 1 : NONE, 0, 1);
        for (int cell = 0; cell < CELLS; cell++) {
            long light = cell == 31 ? 0 : 7;
            h = mix(h, NONE, light, light, light, cell == 31 ? 1 : 0);
        }
        h = mix(h, 8, 31, 0, 1, 1, NONE, NONE, NONE, NONE, NONE);
        for (int step = 9; step < 20; step += 10) h = mix(h, 8, 31, 1, 31);
        // hung at 1, 0 or anywhere; any colour, any DEPTH; DEPTH 8 alone COVERS CELL 31, none another one
        h = mix(h, 1, 0, 0, 15, 510, 31);
        h = mix(h, NONE, 0, NONE, NONE, NONE, 0);
        for (int step = 0; step < 3; step++) h = mix(h, 0, 0, NONE, NONE);
        h = mix(h, NONE, NONE, 1, 0, 1);
        // SEED 7, 15 CUES: by them it goes away from 31 or not
        h = mix(h, x.play(7, 15, 0), x.play(7, 15, 1));
        is(x.digest(), h);
    }

    /** The order that the document tells, by the calls themselves: of three objects, as one is asked 512 times at most. */
    private static long digestByHand(State state) {
        long h = mixTold(state.make(), 17);
        h = mixFigures(state.make(), h);
        return mixPlans(state.make(), h);
    }

    private static long mixTold(ShadowTheatre x, long hash) {
        long h = hash;
        for (int w = 0; w < 8; w++) h = mix(h, x.count(w));
        for (int t = 0; t < 3; t++) h = mix(h, x.fault(t));
        for (int s = 0; s < STEPS; s++) h = mix(h, x.cue(s, 0), x.cue(s, 1), x.screen(s, 0), x.screen(s, 1));
        for (int c = 0; c < CELLS; c++) {
            h = mix(h, x.picture(c), x.light(0, c), x.light(9, c), x.light(19, c), x.covers(19, c));
        }
        return h;
    }

    private static long mixFigures(ShadowTheatre x, long hash) {
        long h = hash;
        for (int f = 0; f < x.count(0); f++) {
            for (int w = 0; w < 10; w++) h = mix(h, x.figure(f, w));
            for (int w = 0; w < 4; w++) h = mix(h, x.at(9, f, w));
            for (int w = 0; w < 4; w++) h = mix(h, x.at(19, f, w));
            h = mix(h, x.hang(f, 9, 0), x.hang(f, 9, 1), x.hang(f, 9, 2), x.was(f, 0), x.was(f, 1), x.ask(f));
        }
        return h;
    }

    private static long mixPlans(ShadowTheatre x, long hash) {
        long h = mix(hash, x.shown(0), x.shown(1), x.touched(0), x.touched(1), x.touched(2), x.darkest());
        for (int s : new int[] {0, 9, 19}) h = mix(h, x.shift(s, 0), x.shift(s, 1), x.leave(s, NONE), x.leave(s, 0));
        h = mix(h, x.more(NONE), x.more(0), x.never(), x.stumble(5, 5, 9, 0), x.stumble(5, 5, 9, 1));
        return mix(h, x.play(7, 15, 0), x.play(7, 15, 1));
    }

    private static void digestIsByHand(State state) {
        is(state.make().digest(), digestByHand(state));
    }

    private static void digestIsByHand(String figures, String cues, String picture, int lamp, int... steps) {
        digestIsByHand(() -> {
            ShadowTheatre x = told(figures, cues, picture);
            x.lamp(lamp);
            flickers(x, steps);
            return x;
        });
    }

    static void digestHeedsEachStepOfItsParts() {
        String cues = "alarblbrafabbfbbclcralarblbrafabcfcbclcr";
        for (int many = 0; many <= 20; many++) {
            digestIsByHand("816k###;416r#.#;215g##", cues.substring(0, 2 * many), "...............000....7", 16);
            digestIsByHand("816k#", times(many, ".."), times(16, ".") + "0", 3, 0);
        }
        digestIsByHand("", "", "", 31, 9, 19);
        digestIsByHand("100k#;831r.", "", "0", 0, 0, 9, 19, 19);
    }

    static void digestHeedsTheStumblesOf6CuesInStep9() {
        for (int many = 0; many <= 11; many++) {
            // CELL 0 is dark as long as it has not moved, CELL 1 when it has moved once
            digestIsByHand("800k#", times(many, "ar"), "0", 16);
            digestIsByHand("800k#", times(many, "ar"), ".0", 16);
            digestIsByHand("800k#", times(many, "ar"), times(many, ".") + "0", 16);
        }
    }

    static void digestHeedsThePlayOf15CuesBySeed7() {
        for (int place = 0; place < 32; place++) {
            digestIsByHand("8" + place / 10 + place % 10 + "k#", "", times(15, ".") + "0", 16);
            digestIsByHand("1" + place / 10 + place % 10 + "k##", "", times(place, ".") + "7", 16);
        }
    }

    static void digestHeedsHowManyStepsThePlayIsShown() {
        // in the PICTURE as it is behind 14, 15 or 16 CUES
        for (int n = 13; n <= 17; n++) {
            for (String figure : new String[] {"816k##", "516k#.#", "616r#"}) {
                StringBuilder cues = new StringBuilder();
                int lot = 7;
                for (int i = 0; i < n; i++) {
                    lot = 1103515245 * (1103515245 * lot + 12345) + 12345;
                    cues.append('a').append("lrfb".charAt((lot >>> 16) % 4));
                }
                String picture = lights(told(figure, cues.toString(), ""), 19);
                is(told(figure, cues.toString(), picture).shown(1) > 0 ? 1 : 0, 1);
                int behind = told(figure, "", picture).play(7, n, 0);
                is(behind, told(figure, cues.toString(), picture).shown(1));
                digestIsByHand(figure, "", picture, 16);
            }
        }
    }

    static void digestHeedsFlickersOfItsSteps() {
        for (int step = 0; step < STEPS; step++) {
            digestIsByHand("816k#;812r#", "arbl", times(32, "7"), 16, step);
            digestIsByHand("816k#;812r#", "arbl", times(16, ".") + "0", 5, step, 19 - step);
            digestIsByHand("", "", "7", 16, step);
        }
    }

    static void digestOfARichAndOfAFullObject() {
        digestIsByHand(Checks::rich);
        digestIsByHand(Checks::full);
    }

    static void digestHeedsWhatWasSeen() {
        ShadowTheatre x = told("805k#", "ar", "");
        long before = x.digest();
        x.seen(0, 6, 0);
        is(x.digest() == before ? 1 : 0, 0);
        x.forget();
        is(x.digest(), before);
        digestIsByHand(() -> {
            ShadowTheatre seen = told("805k#", "ar", "");
            seen.seen(0, 6, 0);
            return seen;
        });
    }

    static void digestHeedsNeitherSheetsNorFindings() {
        ShadowTheatre x = rich();
        long digest = x.digest();
        x.lose(0);
        x.lose(0);
        x.lay(2, 2, 0, 77);
        x.sheet(3, 1, 60);
        is(x.digest(), digest);
    }

    static void digestChangesNothing() {
        changesNothing(Checks::rich, x -> 0 * x.digest(), 0, 2);
        changesNothing(Checks::full, x -> 0 * x.digest(), 0, 2);
        changesNothing(ShadowTheatre::new, x -> 0 * x.digest(), 0, 0);
    }

    // ---- an object is used for at most 512 calls

    static void the512thCallAnswersAsTheFirst() {
        ShadowTheatre x = new ShadowTheatre();
        for (int call = 1; call <= 510; call++) x.type(call % 3, call % 2 == 0 ? '.' : 'x');
        is(x.wipe(2), 32);
        is(x.wipe(1), 40);
        ShadowTheatre y = told("805k#", "", "");
        for (int call = 6; call <= 511; call++) is(y.light(call % 20, 5), 0);
        is(y.digest(), figures("805k#").digest());
    }
}
