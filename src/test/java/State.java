/** All of a house that its calls show, as one text. The house is used up: at the end it is added to. */
final class State {
    private final StringBuilder text = new StringBuilder();

    static String of(Sumsetry house) {
        State state = new State();
        for (int what = 0; what < 5; what++) {
            int asked = what;
            state.note(() -> house.of(asked));
        }
        int last = house.of(0) * house.of(1) - 1;
        state.note(() -> house.add(last, last, true));
        state.note(() -> house.add(last + 1, 0, true));
        state.noteSets(house, last);
        state.noteRow(house, last);
        state.note(() -> house.set(1));
        return state.text.toString();
    }

    private void noteSets(Sumsetry house, int last) {
        int lastK = house.of(1) - 1;
        int count = house.of(2);
        for (int set = 0; set <= count; set++) {
            int asked = set;
            note(() -> house.elements(asked));
            note(() -> house.transform(asked, lastK));
        }
        note(() -> house.waysAnew(0, count - 1, last));
    }

    private void noteRow(Sumsetry house, int last) {
        note(house::zero);
        note(() -> house.put(last));
        note(house::zero);
        note(house::wipe);
        note(house::zero);
    }

    private void note(Report.Call call) {
        text.append(Report.told(call)).append(' ');
    }
}
