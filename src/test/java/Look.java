/** All that can be seen of an object from outside, as one text. */
final class Look {
    private Look() {
    }

    static String at(Tape x) {
        StringBuilder all = new StringBuilder();
        for (int what = 0; what <= 9; what++) all.append(x.is(what)).append(' ');
        for (int volume = 0; volume < 12; volume++) {
            all.append("\nv").append(volume);
            for (int what = 0; what <= 11; what++) all.append(' ').append(x.of(volume, what));
        }
        for (int block = 0; block < 96; block++) {
            if (x.ofBlock(block, 0) == ThinVolumes.NONE) continue;
            all.append("\nb").append(block);
            for (int what = 0; what <= 2; what++) all.append(' ').append(x.ofBlock(block, what));
        }
        for (int part = 0; part < 160; part++) {
            if (x.ofPart(part, 0) == ThinVolumes.NONE) continue;
            all.append("\np").append(part).append(' ').append(x.ofPart(part, 0)).append(' ').append(x.ofPart(part, 1));
            for (int place = 0; place < 8; place++) all.append(' ').append(x.place(part, place));
        }
        return all.toString();
    }

    static String rows(Tape x) {
        StringBuilder all = new StringBuilder();
        for (int i = 0; i < x.is(10); i++) all.append(x.stream(i, 0)).append('=').append(x.stream(i, 1)).append(' ');
        all.append('|');
        for (int i = 0; i < x.is(11); i++) all.append(x.staged(i, 0)).append('=').append(x.staged(i, 1)).append(' ');
        return all.toString();
    }
}
