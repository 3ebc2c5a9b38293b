/** The document's names for the instructions. */
interface HelpOps {
    int INT = 0, NULL = 1, LOAD = 2, STORE = 3, ADD = 4, SUB = 5, DIV = 6, LESS = 7;
    int GOTO = 8, ZERO = 9, NONE = 10, SAME = 11, NEW = 12, GET = 13, PUT = 14, IS = 15;
    int CALL = 16, SEND = 17, GIVE = 18, THROW = 19, DUP = 20, POP = 21, FETCH = 22, KEEP = 23;
}
