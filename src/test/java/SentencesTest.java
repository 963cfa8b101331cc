import java.io.IOException;
import java.nio.file.Files;
import java.nio.file.Path;

/** The document's sentences in its order, each with a test of its own. The second argument is the document's path. */
public final class SentencesTest {
  /** Words that lead to a promise and are none: the quotes and these are all that the sections say. */
  private static final String[] UNPROMISING = {"A PICTURE is read from a TEXT: ", "```text", "==== 2. ", "THE METER: COUNTERS",
    "A reader of pictures of many threads: who waits for whom, rings and the holder at a tree's foot, the lock that most wait "
      + "through, threads that are stuck in all pictures, orders of locks that are broken though no ring stands, heaps of like "
      + "rows of calls, and how much a thread can have done between two pictures. ==== 1."};

  private static final Sentences all = new Sentences();

  public static void main(String[] args) throws IOException {
    use();
    textTerms();
    tornTerms();
    waitTerms();
    laterTerms();
    tapePromises();
    lookPromises();
    waitPromises();
    timePromises();
    workPromise();
    heapPromises();
    orderAndCountPromises();
    compare(args);
    all.end("SentencesTest");
  }

  private static void compare(String[] args) throws IOException {
    if (args.length < 2 || !Files.isReadable(Path.of(args[1]))) {
      System.out.println("SentencesTest: the document is not there, its words are not compared");
      return;
    }
    all.compareWith(Path.of(args[1]), UNPROMISING);
  }

  private static void use() {
    all.section("What it is");
    all.holds("An object is used for at most 512 calls after it has been made; what later calls answer is free.", TapeEdges::calls512);
  }

  private static void textTerms() {
    all.section("Terms");
    all.holds("a HEAD, and ROWS, each behind a ; (59)", TextEdges::rowsBehindSemicolons);
    all.holds("no blanks", TextEdges::noBlanks);
    all.holds("HEAD: t and the TICK", TextEdges::headBegins);
    all.holds("a number of one to four digits", TextEdges::ticks);
    all.holds("with ; or the end behind it (else it is the HEAD that is TORN)", TextEdges::behindTheTick);
    all.holds("ROW: a THREAD (one or two digits: 0 to 23)", TextEdges::threads);
    all.holds("a STATE (R runs, W waits, S spins, F foreign)", TextEdges::states);
    all.holds("a COUNTER (one to four digits)", TextEdges::counters);
    all.holds("then, if it is so", TextEdges::partsThatMayBeThere);
    all.holds("h and LOCKS that it holds (one or two digits each: 0 to 15", TextEdges::heldLocks);
    all.holds("one to four, a comma between two)", TextEdges::fourLocksAndCommas);
    all.holds("w and the LOCK at which it waits", TextEdges::waitedLocks);
    all.holds("c and its CALLS (one to twelve letters a to z", TextEdges::calls);
    all.holds("the outermost first", TextEdges::outermostFirst);
    all.holds("W and S have a w", TextEdges::waitersHaveW);
    all.holds("R and F have none.", TextEdges::othersHaveNoW);
  }

  private static void tornTerms() {
    all.holds("THE TEXT is READ as far as it goes: it is TORN at the first byte that can't stand there", TextEdges::firstFaultCounts);
    all.holds("a number too great: at its first digit", TextEdges::tooGreat);
    all.holds("(more digits than may be: at the first too many, whatever the number)", TextEdges::tooManyDigits);
    all.holds("a THREAD that the PICTURE has: at its first digit", TextEdges::threadTwice);
    all.holds("a LOCK that is held there already, also by the same THREAD: at its first digit", TextEdges::lockTwice);
    all.holds("w in a ROW of R or F: at it", TextEdges::wOfOthers);
    all.holds("a ROW of W or S that would end without w (; or c or the end): there", TextEdges::endWithoutW);
    all.holds("the end, where more must come: at its length.", TextEdges::endTooEarly);
    all.holds("ROWS ahead of that one stand.", TextEdges::rowsAheadStand);
    all.holds("PICTURES 0 to 7, by when they came", TimeEdges::eightPictures);
    all.holds("no two of one TICK.", TimeEdges::oneOfATick);
    all.holds("Their ORDER is by TICKS.", TimeEdges::orderByTicks);
  }

  private static void waitTerms() {
    all.holds("THREAD t WAITS FOR u in a PICTURE if it waits at a LOCK that u holds there", WaitEdges::waitsFor);
    all.holds("(also for itself)", WaitEdges::forItself);
    all.holds("LOCKS that nobody holds there nobody is waited for at.", WaitEdges::nobodyHolds);
    all.holds("THE CHAIN of a THREAD: it, the one that it WAITS FOR, and so on, each once.", WaitEdges::eachOnce);
    all.holds("A RING: THREADS each of which WAITS FOR the next one, the last FOR the first.", WaitEdges::ringsEnd);
    all.holds("THE FOOT of a THREAD that has a w:", WaitEdges::footNeedsW);
    all.holds("the last of its CHAIN, if that WAITS FOR nobody.", WaitEdges::footWaitsForNobody);
    all.holds("A THREAD waits THROUGH each other one of its CHAIN", WaitEdges::throughEachOther);
    all.holds("and THROUGH each LOCK at which one of its CHAIN (itself, too) waits.", WaitEdges::throughEachLock);
    all.holds("THE GUILTY LOCK: THROUGH which most wait", WaitEdges::mostWait);
    all.holds("of like ones the lowest.", WaitEdges::lowestOfLikeOnes);
  }

  private static void laterTerms() {
    all.holds("STUCK is a THREAD that two PICTURES at least have", TimeEdges::stuckInTwo);
    all.holds("and all that have it have it alike", TimeEdges::stuckInAll);
    all.holds("STATE, COUNTER, LOCKS held, waited at, CALLS.", TimeEdges::stuckAlike);
    all.holds("LOCK a is AHEAD OF b if in some PICTURE some THREAD holds a and waits at b", TimeEdges::ahead);
    all.holds("(another one).", TimeEdges::aheadOfItself);
    all.holds("THE BROKEN ORDER: a ring of LOCKS, each AHEAD OF the next one, the last of the first", TimeEdges::lastOfTheFirst);
    all.holds("of fewest LOCKS", TimeEdges::fewestLocks);
    all.holds("of like ones the least, LOCK by LOCK", TimeEdges::leastOfLikeOnes);
    all.holds("begun at its lowest.", TimeEdges::begunAtLowest);
    all.holds("COUNTERS go round at M (2 to 10000; 10000 at first)", TimeEdges::roundOfMeter);
    all.holds("a THREAD does at most V (0 to 100; 10 at first) in a TICK.", TimeEdges::mostInATick);
    all.holds("Between two PICTURES that have it, x TICKS apart, a THREAD can have done each number from 0 to V x that", TimeEdges::upToVx);
    all.holds("counted from the COUNTER of the one ahead", TimeEdges::fromTheOneAhead);
    all.holds("goes round to that of the one behind", TimeEdges::goesRound);
    all.holds("(COUNTERS by their rest by M).", TimeEdges::restByM);
    all.holds("THE DISTANCE of two rows of CALLS: the fewest CALLS put in, taken out or changed that make one the other.", HeapEdges::fewestCalls);
    all.holds("HEAPS by D in a PICTURE: THREADS (all that it has)", HeapEdges::allThreads);
    all.holds("hung together by", HeapEdges::hungTogether);
    all.holds("DISTANCES not above D.", HeapEdges::notAboveD);
    all.holds("All memory is the reader's own.", TapeEdges::readersShareNothing);
    all.holds("A call that is refused (NONE, false) changes nothing but the tape, where it is told.", TapeEdges::refusedCalls);
    all.holds("The constants: `NONE = -1`: There is none.", TapeEdges::constant);
  }

  private static void tapePromises() {
    all.section("Promise 1: A new object");
    all.holds("No PICTURES.", TapeEdges::noPictures);
    all.section("Promise 2: feed");
    all.holds("Twenty bytes come behind the tape", TapeEdges::behindTheTape);
    all.holds("the highest of each int first", TapeEdges::highestFirst);
    all.holds("how many it has", TapeEdges::howManyItHas);
    all.holds("NONE if that would be more than 300.", TapeEdges::moreThan300);
    all.section("Promise 3: picture");
    all.holds("The first n bytes of the tape", TapeEdges::firstBytes);
    all.holds("(empty then)", TapeEdges::emptyThen);
    all.holds("are a PICTURE: its number", TapeEdges::itsNumber);
    all.holds("-2: its HEAD is TORN", TapeEdges::headIsTorn);
    all.holds("or a PICTURE has its TICK", TapeEdges::tickIsThere);
    all.holds("(there is none then)", TapeEdges::noneThen);
    all.holds("NONE: 8 are there", TapeEdges::eightAreThere);
    all.holds("or it has not so many", TapeEdges::notSoMany);
    all.holds("(the tape stays).", TapeEdges::tapeStays);
  }

  private static void lookPromises() {
    all.section("Promise 4: torn");
    all.holds("Where PICTURE p is TORN", TextEdges::tornPlace);
    all.holds("NONE: nowhere", TextEdges::tornNowhere);
    all.holds("or no such one.", TextEdges::tornOfNone);
    all.section("Promise 5: look");
    all.holds("Of THREAD t in PICTURE p, what 0 STATE (0 R, 1 W, 2 S, 3 F)", TextEdges::lookState);
    all.holds("1 COUNTER", TextEdges::lookCounter);
    all.holds("2 LOCKS held, as bits", TextEdges::lookHeld);
    all.holds("3 the LOCK at which it waits (NONE)", TextEdges::lookWaited);
    all.holds("4 how many CALLS", TextEdges::lookCalls);
    all.holds("10 + i CALL i.", TextEdges::lookCall);
    all.holds("NONE for others", TextEdges::lookOthers);
    all.holds("or if it is not there.", TextEdges::lookAtNone);
  }

  private static void waitPromises() {
    all.section("Promise 6: holder");
    all.holds("Who holds LOCK l in PICTURE p", WaitEdges::holds);
    all.holds("NONE: nobody", WaitEdges::nobodyIsHolder);
    all.holds("no such ones.", WaitEdges::holderOfNone);
    all.section("Promise 7: rings");
    all.holds("How many RINGS PICTURE p has", WaitEdges::howManyRings);
    all.holds("NONE: no such one.", WaitEdges::ringsOfNone);
    all.section("Promise 8: ring");
    all.holds("THREAD i of RING r in PICTURE p", WaitEdges::threadOfRing);
    all.holds("(RINGS by their lowest THREADS", WaitEdges::ringsByLowest);
    all.holds("each from that on)", WaitEdges::ringFromLowestOn);
    all.holds("NONE: there is none such.", WaitEdges::noSuchRing);
    all.section("Promise 9: foot");
    all.holds("THE FOOT of THREAD t in PICTURE p", WaitEdges::footOf);
    all.holds("NONE: there is none.", WaitEdges::noFoot);
    all.holds("(It is t itself if nobody holds the LOCK at which it waits.)", WaitEdges::footIsItself);
    all.section("Promise 10: through");
    all.holds("How many wait THROUGH THREAD t in PICTURE p", WaitEdges::howManyThroughThread);
    all.holds("NONE: no such ones", WaitEdges::throughOfNone);
    all.holds("it is not there.", WaitEdges::throughNotThere);
    all.section("Promise 11: weight");
    all.holds("How many wait THROUGH LOCK l in PICTURE p", WaitEdges::howManyThroughLock);
    all.holds("NONE: no such ones.", WaitEdges::weightOfNone);
    all.section("Promise 12: guilty");
    all.holds("THE GUILTY LOCK of PICTURE p", WaitEdges::guiltyOf);
    all.holds("NONE: nobody waits", WaitEdges::nobodyWaits);
    all.holds("no such PICTURE.", WaitEdges::guiltyOfNone);
  }

  private static void timePromises() {
    all.section("Promise 13: stuck");
    all.holds("The i-th STUCK THREAD, by number", TimeEdges::stuckByNumber);
    all.holds("NONE: there is none such.", TimeEdges::noSuchStuck);
    all.section("Promise 14: broken");
    all.holds("LOCK i of THE BROKEN ORDER", TimeEdges::lockOfBroken);
    all.holds("NONE: there is none such.", TimeEdges::noSuchBroken);
    all.section("Promise 15: meter");
    all.holds("THE METER: true", TimeEdges::meterTaken);
    all.holds("false: no such numbers.", TimeEdges::meterRefused);
  }

  private static void workPromise() {
    all.section("Promise 16: work");
    all.holds("What THREAD t can have done between PICTURES p and q", TimeEdges::workBetween);
    all.holds("what 0 the least", TimeEdges::workLeast);
    all.holds("1 the greatest", TimeEdges::workGreatest);
    all.holds("2 how many numbers", TimeEdges::workNumbers);
    all.holds("NONE: no such ones", TimeEdges::workOfNone);
    all.holds("one has it not", TimeEdges::workOneHasItNot);
    all.holds("p and q are one", TimeEdges::workOfOne);
    all.holds("(0, 1: also if there is no number).", TimeEdges::workNoNumber);
  }

  private static void heapPromises() {
    all.section("Promise 17: distance");
    all.holds("THE DISTANCE of the CALLS of THREADS t and u in PICTURE p", HeapEdges::distanceOf);
    all.holds("NONE: no such ones", HeapEdges::distanceOfNone);
    all.holds("one is not there.", HeapEdges::distanceNotThere);
    all.section("Promise 18: heaps");
    all.holds("How many HEAPS by d (0 to 24) PICTURE p has", HeapEdges::howManyHeaps);
    all.holds("NONE: no such ones.", HeapEdges::heapsOfNone);
    all.section("Promise 19: heap");
    all.holds("The lowest THREAD of THREAD t's HEAP by d in PICTURE p", HeapEdges::lowestThread);
    all.holds("NONE: no such ones", HeapEdges::heapOfNone);
    all.holds("it is not there.", HeapEdges::heapNotThere);
  }

  private static void orderAndCountPromises() {
    all.section("Promise 20: order");
    all.holds("PICTURE i in ORDER (from 0 on)", TimeEdges::orderFrom0);
    all.holds("NONE: there is none such.", TimeEdges::noSuchOrder);
    all.section("Promise 21: count");
    all.holds("Of PICTURE p, what 0 its TICK", TimeEdges::countTick);
    all.holds("1 THREADS", TimeEdges::countThreads);
    all.holds("2 those with a w", TimeEdges::countWaiting);
    all.holds("3 LOCKS held", TimeEdges::countHeld);
    all.holds("p NONE: what 0 PICTURES", TimeEdges::countPictures);
    all.holds("1 bytes of the tape", TimeEdges::countTape);
    all.holds("2 M", TimeEdges::countM);
    all.holds("3 V.", TimeEdges::countV);
    all.holds("NONE for others.", TimeEdges::countOthers);
  }
}
