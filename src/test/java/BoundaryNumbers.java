/** So that a test writes OUTSIDE and its like shortly; the numbers are told again in Boundary, not taken from the class. */
abstract class BoundaryNumbers {
    static final int UNKNOWN = Boundary.UNKNOWN, OUTSIDE = Boundary.OUTSIDE, STATE = Boundary.STATE, FULL = Boundary.FULL;
    static final int NONE = Boundary.NONE, FAULT = Boundary.FAULT;
}
