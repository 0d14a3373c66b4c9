/** All that a box tells, as text: some 170 calls, and 4 more for each particle. */
final class Told {
    private Told() {
    }

    /** All but the limit and the rounds, which no call answers; the box is left as it was. */
    static String of(WaterBox box) {
        return settings(box) + solids(box) + particles(box) + steps(box) + " failed " + box.count(3);
    }

    /** As of, without how many steps failed. */
    static String butFailed(WaterBox box) {
        return settings(box) + solids(box) + particles(box) + steps(box);
    }

    static String settings(WaterBox box) {
        double pull = box.pull(0);
        float share = box.share(0);
        box.pull(pull);
        box.share(share);
        return "pull " + pull + " share " + share;
    }

    static String solids(WaterBox box) {
        StringBuilder text = new StringBuilder(" solid");
        for (int cell = 0; cell < 36; cell++) {
            if (box.solid(cell % 6, cell / 6, false)) {
                box.solid(cell % 6, cell / 6, true);
                text.append(' ').append(cell);
            }
        }
        return text.toString();
    }

    static String particles(WaterBox box) {
        StringBuilder text = new StringBuilder(" particles " + box.count(0) + " in " + box.count(1));
        for (int k = 0; k < box.count(0); k++) {
            for (int what = 0; what < 4; what++) {
                text.append(' ').append(box.particle(k, what));
            }
        }
        text.append(" energy ").append(box.energy());
        return text.append(" drift ").append(box.drift(0)).append(' ').append(box.drift(1)).toString();
    }

    /** What the latest step that was done left, and how many were done. */
    static String steps(WaterBox box) {
        StringBuilder text = new StringBuilder(" pressure");
        for (int cell = 0; cell < 36; cell++) {
            text.append(' ').append(box.pressure(cell % 6, cell / 6));
        }
        text.append(" faces");
        for (int place = 0; place < 42; place++) {
            text.append(' ').append(box.face(0, place / 6, place % 6));
            text.append(' ').append(box.face(1, place % 6, place / 6));
        }
        return text.append(" rest ").append(box.rest()).append(" done ").append(box.count(2)).toString();
    }
}
