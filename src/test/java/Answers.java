/** The document's numbers, told a second time so that a wrong constant in the program is seen. */
interface Answers {
    int NONE = 0;
    int ACTIVE = 1;
    int WAITING = 2;
    int COMMITTED = 3;
    int SETTLED = 4;
    int ABORTED = 5;

    int DONE = 0;
    int NO_TXN = -1;
    int NOT_ACTIVE = -2;
    int NO_ITEM = -3;
    int BAD_VALUE = -4;
    int NO_OPS = -5;
    int CYCLE = -6;
    int FULL = -7;
    int NO_MORE = -8;
    int NOT_OPEN = -9;
    int NOT_WRITTEN = -10;

    int MAX_BEGUN = 64;
    int MAX_OPS = 128;

    int LOW = Integer.MIN_VALUE;
    int HIGH = Integer.MAX_VALUE;
}
