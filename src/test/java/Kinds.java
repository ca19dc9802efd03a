/** The document's numbers by name. */
interface Kinds {
    int BIRTH = 0;
    int WEDDING = 1;
    int OATH = 2;
    int CHOICE = 3;
    int SERVICE = 4;
    int BORDER = 5;
    int STAY = 6;
    int NONE = -1;
    /** The last day; the least and the greatest number that there is. */
    int END = 72999;
    int LEAST = Integer.MIN_VALUE;
    int GREATEST = Integer.MAX_VALUE;
    long NO_SUCH = Calls.NO_SUCH;
    long ILLEGAL = Calls.ILLEGAL;
}
